/** The boundaries that Terms 4 names: HOURS, BANK and ANEW. */
final class Terms4Edges {
    static void run(Check check) {
        terms4_hoursAtMost150(check);
        terms4_todayOrAhead(check);
        terms4_hours0To24(check);
        terms4_knownFromToday(check);
        terms4_latestToldByADay(check);
        terms4_bank(check);
        terms4_bankAtItsMost(check);
        terms4_allMorningsAheadOfTheDay(check);
        terms4_workedFromTheFirstOneOn(check);
        terms4_nothingLeftOfTheAnewAhead(check);
        terms4_asKnownOnTheOther(check);
        terms4_allElseAsItWas(check);
        terms4_differsBothWays(check);
    }

    private static void terms4_hoursAtMost150(Check check) {
        check.words("Terms 4", "HOURS, at most 150 told:");
        HiringHall hall = Check.onDay(49);
        Check.vote(hall, "fund 0 1;", 0);
        for (int worker = 0; worker < 3; worker++) {
            hall.worker(worker);
            for (int day = 0; day < 50; day++) {
                check.yes("hours", hall.hours(worker, day, 2));
            }
        }
        check.no("told for the 151st time", hall.hours(0, 0, 24));
        check.due("hours told", hall.count(5), 150);
        for (int worker = 0; worker < 3; worker++) {
            check.due("bank of worker " + worker, hall.bank(worker, 0, 49), 100);
        }
        hall.morning();
        check.no("told on a later DAY", hall.hours(0, 50, 1));
    }

    private static void terms4_todayOrAhead(Check check) {
        check.words("Terms 4", "of a worker and a DAY (TODAY or ahead of it)");
        HiringHall hall = new HiringHall();
        hall.worker(0);
        Check.vote(hall, "fund 0 1;", 0);
        check.no("tomorrow, from DAY 0", hall.hours(0, 1, 16));
        Check.mornings(hall, 2);
        check.yes("DAY 0", hall.hours(0, 0, 1));
        check.yes("yesterday", hall.hours(0, 1, 2));
        check.yes("TODAY", hall.hours(0, 2, 4));
        check.no("tomorrow", hall.hours(0, 3, 8));
        check.no("DAY -1", hall.hours(0, -1, 8));
        check.due("bank", hall.bank(0, 0, 2), 7);
        hall.morning();
        check.due("bank on the next DAY", hall.bank(0, 0, 3), 7);
    }

    private static void terms4_hours0To24(Check check) {
        check.words("Terms 4", "0 .. 24");
        HiringHall hall = new HiringHall();
        hall.worker(0);
        Check.vote(hall, "fund 0 1;", 0);
        check.yes("24", hall.hours(0, 0, 24));
        check.no("25", hall.hours(0, 0, 25));
        check.no("-1", hall.hours(0, 0, -1));
        check.due("bank", hall.bank(0, 0, 0), 24);
        check.yes("0, told behind 24", hall.hours(0, 0, 0));
        check.due("bank then", hall.bank(0, 0, 0), 0);
        check.due("hours told", hall.count(5), 2);
    }

    private static void terms4_knownFromToday(Check check) {
        check.words("Terms 4", "KNOWN from TODAY on;");
        HiringHall hall = new HiringHall();
        hall.worker(0);
        Check.vote(hall, "fund 0 1;", 0);
        Check.mornings(hall, 2);
        hall.hours(0, 0, 5);
        hall.morning();
        int[] due = {0, 0, 5, 5};
        for (int known = 0; known < 4; known++) {
            check.due("as KNOWN on " + known, hall.bank(0, 0, known), due[known]);
        }
    }

    private static void terms4_latestToldByADay(Check check) {
        check.words("Terms 4", "the latest told by a DAY counts as KNOWN on it.");
        HiringHall hall = new HiringHall();
        hall.worker(0);
        hall.worker(0);
        Check.vote(hall, "fund 0 1;", 0);
        hall.hours(0, 0, 1);
        hall.hours(0, 0, 2);
        hall.hours(1, 0, 20);
        hall.morning();
        hall.hours(0, 0, 8);
        hall.hours(0, 0, 4);
        hall.morning();
        hall.hours(0, 1, 0);
        hall.hours(0, 0, 0);
        int[] due = {2, 4, 0};
        for (int known = 0; known < 3; known++) {
            check.due("as KNOWN on " + known, hall.bank(0, 0, known), due[known]);
            check.due("of another, as KNOWN on " + known, hall.bank(1, 0, known), 20);
        }
    }

    private static void terms4_bank(Check check) {
        check.words("Terms 4", "BANK of a worker and a FUND: the sum, over DAYS, of hours times what fund says on that DAY, "
                + "both as KNOWN.");
        HiringHall hall = new HiringHall();
        hall.worker(0);
        check.due("nothing told yet", hall.bank(0, 0, 0), 0);
        hall.hours(0, 0, 3);
        check.due("without a RULE", hall.bank(0, 0, 0), 0);
        Check.vote(hall, "fund 0 10;fund 2 1;", 0);
        Check.vote(hall, "fund 0 100;", 1);
        hall.morning();
        hall.hours(0, 1, 5);
        check.due("each DAY by its own RULE", hall.bank(0, 0, 1), 530);
        check.due("as KNOWN on DAY 0", hall.bank(0, 0, 0), 30);
        check.due("fund 1", hall.bank(0, 1, 1), 0);
        check.due("fund 2", hall.bank(0, 2, 1), 8);
        hall.morning();
        Check.vote(hall, "fund 0 7;", 1);
        hall.undo(0);
        check.due("RULES as KNOWN on DAY 2", hall.bank(0, 0, 2), 35);
        check.due("RULES as KNOWN on DAY 1", hall.bank(0, 0, 1), 530);
    }

    private static void terms4_bankAtItsMost(Check check) {
        check.words("Terms 4", "BANK of a worker and a FUND: the sum, over DAYS, of hours times what fund says on that DAY, "
                + "both as KNOWN.");
        HiringHall hall = Check.onDay(99);
        hall.worker(0);
        Check.vote(hall, "fund 1 999;", 0);
        for (int day = 0; day < 100; day++) {
            hall.hours(0, day, 24);
        }
        check.due("every DAY, all hours, the highest N", hall.bank(0, 1, 99), 100 * 24 * 999);
        check.due("as KNOWN on the DAY ahead", hall.bank(0, 1, 98), 0);
    }

    private static void terms4_allMorningsAheadOfTheDay(Check check) {
        check.words("Terms 4", "ANEW to a DAY, by RULES as KNOWN on another: all MORNINGS ahead of the DAY (that are done)");
        HiringHall hall = new HiringHall();
        check.due("no MORNING is done", hall.anew(0, 0), 0);
        Check.ready(hall, 2, 0, 0, 1, 2);
        for (int day = 0; day < 2; day++) {
            hall.call(0, 1, 1, -1, 0);
            hall.morning();
        }
        Check.vote(hall, "permit 1;", 0);
        hall.call(0, 1, 1, -1, 0);
        check.due("to DAY 0: none", hall.anew(0, 2), 0);
        check.due("to DAY 1: the first", hall.anew(1, 2), 1);
        check.none("the second is not among them", hall.differs(1, 0));
        check.due("to TODAY: all that are done", hall.anew(2, 2), 2);
        check.none("TODAY's own is not done", hall.differs(2, 0));
        HiringHall sent = new HiringHall();
        Check.ready(sent, 0, 0, 0, 1);
        for (int day = 0; day < 2; day++) {
            sent.call(0, 1, 1, -1, 0);
            check.due("SENT on DAY " + day, sent.morning(), 1);
        }
        for (int day = 0; day <= 2; day++) {
            check.due("who was SENT behind DAY " + day + " is no difference", sent.anew(day, 2), 0);
            check.none("nor the first one", sent.differs(0, 0));
        }
        HiringHall last = Check.onDay(98);
        Check.ready(last, 2, 0, 98);
        last.call(0, 1, 1, -1, 0);
        last.morning();
        Check.vote(last, "permit 1;", 0);
        check.due("to DAY 98", last.anew(98, 99), 0);
        check.due("to the last DAY", last.anew(99, 99), 1);
    }

    private static void terms4_workedFromTheFirstOneOn(Check check) {
        check.words("Terms 4", "worked from the first one on");
        HiringHall hall = new HiringHall();
        Check.vote(hall, "refuse 2;", 0);
        Check.ready(hall, 0, 0, 0, 1, 2);
        Check.ready(hall, 0, 0, 2);
        hall.refuse(hall.call(0, 1, 1, -1, 0), 0);
        hall.morning();
        hall.refuse(hall.call(0, 1, 1, -1, 0), 0);
        hall.morning();
        hall.call(0, 3, 1, -1, 0);
        hall.morning();
        check.whys(hall, 2, 6, -1, 5, 0);
        for (int day = 0; day <= 3; day++) {
            check.due("to DAY " + day + ", by what was KNOWN", hall.anew(day, 0), 0);
            check.due("and again, nothing being left of it", hall.anew(day, 3), 0);
        }
        Check.vote(hall, "refuse 3;", 0);
        check.due("a place kept carries over", hall.anew(3, 3), 2);
        check.due("worker 0", hall.differs(0, 1), 0);
        check.due("is SENT there", hall.differs(0, 2), 1);
        check.due("worker 1", hall.differs(1, 1), 1);
        check.due("was SENT", hall.differs(1, 2), 0);
    }

    private static void terms4_nothingLeftOfTheAnewAhead(Check check) {
        check.words("Terms 4", "worked from the first one on");
        HiringHall hall = new HiringHall();
        Check.vote(hall, "refuse 2;", 0);
        Check.ready(hall, 0, 0, 0, 1);
        Check.ready(hall, 0, 0, 0, 1);
        hall.paper(0, 5, 99);
        hall.refuse(hall.call(5, 1, 1, -1, 0), 0);
        hall.morning();
        hall.call(0, 30, 1, -1, 0);
        hall.morning();
        check.whys(hall, 1, 5, 0, 6, -1);
        check.due("it ends with one refusal", hall.anew(1, 2), 0);
        check.due("the next begins with none", hall.anew(2, 2), 0);
        check.due("the next begins with nobody on a job", hall.anew(2, 2), 0);
    }

    private static void terms4_asKnownOnTheOther(Check check) {
        check.words("Terms 4", "each by the RULES of its DAY as KNOWN on the other");
        HiringHall hall = new HiringHall();
        Check.ready(hall, 2, 0, 0, 1, 2);
        for (int day = 0; day < 3; day++) {
            if (day == 1) {
                Check.vote(hall, "permit 1;", 1);
            }
            hall.call(0, 1, 1, -1, 0);
            check.due("SENT on DAY " + day, hall.morning(), day == 0 ? 0 : 1);
        }
        hall.undo(0);
        hall.morning();
        check.due("as KNOWN on DAY 0: no permit at all", hall.anew(3, 0), 2);
        check.due("the first is of DAY 1", hall.differs(0, 0), 1);
        check.due("as KNOWN on DAY 1: permit from DAY 1 on", hall.anew(3, 1), 0);
        check.due("as KNOWN on DAY 2", hall.anew(3, 2), 0);
        check.due("as KNOWN on DAY 3: undone", hall.anew(3, 3), 2);
        Check.vote(hall, "permit 1;", 0);
        check.due("as KNOWN on DAY 4: permit from DAY 0 on", hall.anew(3, 4), 1);
        check.due("it is of DAY 0", hall.differs(0, 0), 0);
    }

    private static void terms4_allElseAsItWas(Check check) {
        check.words("Terms 4", "all else told as it was.");
        HiringHall hall = new HiringHall();
        Check.ready(hall, 0, 0, 0);
        hall.worker(0);
        hall.here(1, 0, 0, 600);
        hall.call(0, 1, 2, -1, 5);
        hall.refuse(0, 0);
        hall.morning();
        hall.paper(0, 0, 0);
        hall.paper(1, 0, 99);
        Check.ready(hall, 0, 0, 1);
        hall.call(0, 1, 9, -1, 0);
        check.due("papers, workers and CALLS told later are not there", hall.anew(1, 1), 0);
        check.due("nor does it touch TODAY", hall.morning(), 1);
        check.whys(hall, 1, 2, 0, 3, 0, 5, 0);
        check.due("and the refusal told then is there", hall.anew(1, 2), 0);
    }

    private static void terms4_differsBothWays(Check check) {
        check.words("Terms 4", "It DIFFERS in each CALL and worker who is SENT there and was not, or was and is not there.");
        HiringHall hall = new HiringHall();
        for (int i = 0; i < 16; i++) {
            Check.ready(hall, 2, 0, 0, 1, 2);
        }
        for (int day = 0; day < 3; day++) {
            hall.call(0, 1, 9, -1, 0);
            hall.call(0, 1, 9, -1, 1);
            hall.morning();
        }
        Check.vote(hall, "permit 1;", 0);
        check.due("all sixteen on three DAYS", hall.anew(3, 3), 48);
        check.due("the last one's CALL", hall.differs(47, 0), 5);
        check.due("the last one is SENT there", hall.differs(47, 2), 1);
        check.none("there is no 49th", hall.differs(48, 0));
        hall.call(0, 1, 9, -1, 0);
        for (int worker = 0; worker < 16; worker++) {
            hall.here(worker, 3, 0, 600);
        }
        check.due("nine are SENT on DAY 3", hall.morning(), 9);
        hall.undo(0);
        check.due("nine were SENT, and are not there", hall.anew(4, 4), 9);
        for (int k = 0; k < 9; k++) {
            check.due("difference " + k, hall.differs(k, 2), 0);
        }
        check.due("SENT both times is no difference", hall.anew(4, 3), 48);
    }
}
