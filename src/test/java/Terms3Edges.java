/** The boundaries that Terms 3 names: how a MORNING is worked. */
final class Terms3Edges {
    static void run(Check check) {
        terms3_rulesOfThatDayAsKnownThen(check);
        terms3_backBehindTheLastDay(check);
        terms3_backInOrderOfNumbers(check);
        terms3_moreDaysThanShort(check);
        terms3_signedComeToTheEnds(check);
        terms3_callsByMinutes(check);
        terms3_likeMinutesInOrderOfNumbers(check);
        terms3_clockAtFirstItsMinute(check);
        terms3_named(check);
        terms3_booksAndPermit(check);
        terms3_listAsItWas(check);
        terms3_thoseOnJobsStandInIt(check);
        terms3_eachOnce(check);
        terms3_tillSoManyAreSent(check);
        terms3_theFirstThatHolds(check);
        terms3_onAJob(check);
        terms3_noPaper(check);
        terms3_notHere(check);
        terms3_oneRefusalMore(check);
        terms3_asManyAsRefuseSays(check);
        terms3_asManyAfterAChange(check);
        terms3_answerMinutesLater(check);
        terms3_elseSent(check);
        terms3_notComeTo(check);
    }

    private static void terms3_rulesOfThatDayAsKnownThen(Check check) {
        check.words("Terms 3", "A MORNING, by the RULES of that DAY (as KNOWN then):");
        HiringHall hall = new HiringHall();
        Check.ready(hall, 2, 0, 0, 1, 2, 3, 4);
        int[] sent = {0, 1, 0, 0, 1};
        for (int day = 0; day <= 4; day++) {
            switch (day) {
                case 0 -> Check.vote(hall, "permit 1;", 1);
                case 2 -> hall.undo(0);
                case 3 -> Check.vote(hall, "permit 1;", 4);
                default -> { }
            }
            hall.call(0, 1, 1, -1, 0);
            check.due("SENT on DAY " + day, hall.morning(), sent[day]);
        }
        Check.vote(hall, "permit 1;", 0);
        for (int day = 0; day <= 4; day++) {
            check.due("a vote changes no MORNING that is done: DAY " + day, hall.why(day, 0, 0), sent[day] == 1 ? 5 : 6);
        }
    }

    private static void terms3_backBehindTheLastDay(Check check) {
        check.words("Terms 3", "first those whose job had its last DAY on the DAY ahead come back, in order of their numbers:");
        HiringHall hall = new HiringHall();
        for (int i = 0; i < 2; i++) {
            Check.ready(hall, 0, i, 0);
            hall.call(i, i + 1, 1, -1, 0);
        }
        int[][] due = {{0, 1}, {-1, 1}, {-1, -1}};
        for (int day = 0; day < 3; day++) {
            hall.morning();
            check.due("a job of 1 DAY on DAY " + day, hall.look(0, 2), due[day][0]);
            check.due("a job of 2 DAYS on DAY " + day, hall.look(1, 2), due[day][1]);
        }
        HiringHall last = Check.onDay(97);
        Check.ready(last, 0, 0, 97);
        last.call(0, 1, 1, -1, 0);
        last.morning();
        check.due("on DAY 97", last.look(0, 2), 0);
        last.morning();
        check.none("back on DAY 98", last.look(0, 2));
    }

    private static void terms3_backInOrderOfNumbers(Check check) {
        check.words("Terms 3", "first those whose job had its last DAY on the DAY ahead come back, in order of their numbers:");
        HiringHall hall = new HiringHall();
        Check.vote(hall, "refuse 1;", 0);
        for (int i = 0; i < 3; i++) {
            Check.ready(hall, 0, 0, 0);
        }
        hall.paper(0, 5, 99);
        hall.paper(1, 5, 99);
        hall.call(0, 1, 1, -1, 0);
        hall.refuse(0, 0);
        hall.call(5, 1, 2, -1, 1);
        check.due("1 by the first CALL, then 0 by the second", hall.morning(), 2);
        check.list(hall, 0, 2);
        hall.morning();
        check.list(hall, 0, 2, 0, 1);
    }

    private static void terms3_moreDaysThanShort(Check check) {
        check.words("Terms 3", "each whose job had more DAYS than short says goes to the end of the LIST of its BOOK, "
                + "others have the place that they had.");
        int[][] shortAndDays = {{0, 1, 1}, {1, 1, 0}, {1, 2, 1}, {2, 2, 0}, {29, 30, 1}, {30, 30, 0}, {999, 30, 0}};
        for (int[] row : shortAndDays) {
            HiringHall hall = new HiringHall();
            Check.vote(hall, "short " + row[0] + ";", row[1]);
            Check.ready(hall, 1, 0, 0);
            hall.worker(1);
            hall.call(0, row[1], 1, -1, 0);
            Check.mornings(hall, row[1]);
            check.list(hall, 1, 1);
            hall.morning();
            check.list(hall, 1, row[2] == 1 ? 1 : 0, row[2] == 1 ? 0 : 1);
        }
    }

    private static void terms3_signedComeToTheEnds(Check check) {
        check.words("Terms 3", "Then those who signed that DAY come to the ends of their LISTS, in order of their numbers.");
        HiringHall hall = new HiringHall();
        Check.ready(hall, 0, 0, 0);
        hall.worker(0);
        hall.call(0, 1, 1, -1, 0);
        hall.morning();
        hall.worker(1);
        hall.worker(0);
        hall.worker(0);
        check.list(hall, 0, 1);
        check.list(hall, 1);
        hall.morning();
        check.list(hall, 0, 1, 0, 3, 4);
        check.list(hall, 1, 2);
        hall.morning();
        check.list(hall, 0, 1, 0, 3, 4);
        HiringHall full = new HiringHall();
        int[] all = new int[16];
        for (int i = 0; i < 16; i++) {
            all[i] = full.worker(2);
        }
        full.morning();
        check.list(full, 2, all);
    }

    private static void terms3_callsByMinutes(Check check) {
        check.words("Terms 3", "Then the CALLS, by their MINUTES");
        HiringHall hall = sixteenReady();
        for (int call = 0; call < 60; call++) {
            hall.call(0, 1, 1, -1, 59 - call);
        }
        check.due("SENT", hall.morning(), 16);
        for (int worker = 0; worker < 16; worker++) {
            check.due("the CALL of worker " + worker, hall.look(worker, 2), 59 - worker);
        }
        check.due("the CALL behind them", hall.why(43, 15, 0), 1);
    }

    private static void terms3_likeMinutesInOrderOfNumbers(Check check) {
        check.words("Terms 3", "of like ones in order of numbers:");
        HiringHall hall = sixteenReady();
        for (int call = 0; call < 60; call++) {
            hall.call(0, 1, 1, -1, call % 2);
        }
        hall.morning();
        for (int worker = 0; worker < 16; worker++) {
            check.due("the CALL of worker " + worker, hall.look(worker, 2), 2 * worker);
        }
    }

    private static HiringHall sixteenReady() {
        HiringHall hall = new HiringHall();
        for (int i = 0; i < 16; i++) {
            Check.ready(hall, 0, 0, 0);
        }
        return hall;
    }

    private static void terms3_clockAtFirstItsMinute(Check check) {
        check.words("Terms 3", "A CALL has a clock, at first its MINUTE.");
        HiringHall hall = new HiringHall();
        Check.vote(hall, "answer 100;", 0);
        Check.ready(hall, 0, 0, 0);
        Check.ready(hall, 0, 0, 0);
        int[] minutes = {0, 1, 599};
        for (int call = 0; call < 3; call++) {
            hall.refuse(hall.call(0, 1, 1, -1, minutes[call]), 0);
        }
        hall.refuse(0, 1);
        hall.morning();
        check.whys(hall, 0, 4, 0, 4, 100);
        check.whys(hall, 1, 4, 1, 5, 101);
        check.whys(hall, 2, 4, 599, 1, 699);
    }

    private static void terms3_named(Check check) {
        check.words("Terms 3", "Asked is: if name is 1, the one who is NAMED, if its BOOK can be asked;");
        String[] rules = {"name 0;permit 0;", "name 1;permit 0;", "name 0;permit 1;", "name 1;permit 1;"};
        int[][] sentByRulesAndName = {{0, 0, 0}, {0, 1, 0}, {0, 0, 0}, {0, 1, 2}};
        for (int i = 0; i < rules.length; i++) {
            for (int name = -1; name < 3; name++) {
                HiringHall hall = new HiringHall();
                Check.vote(hall, rules[i], 0);
                for (int book = 0; book < 3; book++) {
                    Check.ready(hall, book, 0, 0);
                }
                hall.call(0, 1, 1, name, 7);
                hall.morning();
                int sent = name < 0 ? 0 : sentByRulesAndName[i][name];
                for (int worker = 0; worker < 3; worker++) {
                    check.due(rules[i] + " NAMED " + name + ", worker " + worker, hall.why(0, worker, 0),
                            worker == sent ? 5 : 6);
                }
            }
        }
    }

    private static void terms3_booksAndPermit(Check check) {
        check.words("Terms 3", "then BOOK 0, BOOK 1, and, if permit is 1, BOOK 2,");
        for (int permit = 0; permit <= 1; permit++) {
            HiringHall hall = new HiringHall();
            Check.vote(hall, "answer 10;permit " + permit + ";", 0);
            for (int book = 2; book >= 0; book--) {
                Check.ready(hall, book, 0, 0);
            }
            hall.call(0, 1, 9, -1, 0);
            for (int worker = 0; worker < 3; worker++) {
                hall.refuse(0, worker);
            }
            hall.morning();
            check.whys(hall, 0, permit == 1 ? 4 : 6, permit == 1 ? 20 : -1, 4, 10, 4, 0);
        }
    }

    private static void terms3_listAsItWas(Check check) {
        check.words("Terms 3", "each down its LIST as it was when the CALL began");
        HiringHall hall = new HiringHall();
        Check.vote(hall, "refuse 1;answer 1;", 0);
        for (int i = 0; i < 3; i++) {
            Check.ready(hall, 0, 0, 0);
        }
        for (int call = 0; call < 2; call++) {
            hall.call(0, 1, 9, -1, 10 * call);
            hall.refuse(call, 0);
            hall.refuse(call, 2);
        }
        hall.refuse(0, 1);
        hall.morning();
        check.whys(hall, 0, 4, 0, 4, 1, 4, 2);
        check.whys(hall, 1, 4, 10, 5, 11, 4, 11);
        check.list(hall, 0, 0, 2);
        check.due("each refused twice, and has none", hall.look(0, 3) + hall.look(2, 3), 0);
    }

    private static void terms3_thoseOnJobsStandInIt(Check check) {
        check.words("Terms 3", "(those on jobs stand in it where their place is);");
        HiringHall hall = new HiringHall();
        Check.vote(hall, "answer 10;short 2;", 0);
        for (int i = 0; i < 4; i++) {
            Check.ready(hall, 0, 0, 0, 1);
        }
        hall.paper(1, 3, 99);
        hall.call(3, 2, 1, -1, 0);
        hall.morning();
        check.list(hall, 0, 0, 2, 3);
        hall.call(0, 1, 1, -1, 5);
        hall.refuse(1, 0);
        hall.refuse(1, 2);
        hall.morning();
        check.whys(hall, 1, 4, 5, 1, 15, 4, 15, 5, 25);
        hall.morning();
        check.list(hall, 0, 0, 1, 2, 3);
    }

    private static void terms3_eachOnce(Check check) {
        check.words("Terms 3", "each once,");
        HiringHall hall = new HiringHall();
        Check.vote(hall, "name 1;answer 10;refuse 2;", 0);
        Check.ready(hall, 0, 0, 0);
        Check.ready(hall, 0, 0);
        hall.here(1, 0, 10, 600);
        hall.call(0, 1, 1, 1, 0);
        hall.refuse(0, 0);
        check.due("the NAMED one is HERE too late, and not asked again", hall.morning(), 0);
        check.whys(hall, 0, 4, 0, 3, 0);
        HiringHall refusing = new HiringHall();
        Check.vote(refusing, "name 1;answer 10;refuse 1;", 0);
        Check.ready(refusing, 0, 0, 0);
        Check.ready(refusing, 0, 0, 0);
        refusing.call(0, 1, 9, 0, 0);
        refusing.refuse(0, 0);
        refusing.refuse(0, 1);
        refusing.morning();
        check.whys(refusing, 0, 4, 0, 4, 10);
        check.list(refusing, 0, 0, 1);
    }

    private static void terms3_tillSoManyAreSent(Check check) {
        check.words("Terms 3", "till so many are SENT as are WANTED.");
        for (int wanted = 1; wanted <= 9; wanted++) {
            HiringHall hall = new HiringHall();
            for (int i = 0; i < 6; i++) {
                Check.ready(hall, i % 2, 0, 0);
            }
            hall.call(0, 1, wanted, -1, 0);
            check.due("SENT of 6, WANTED " + wanted, hall.morning(), Math.min(6, wanted));
            int[] order = {0, 2, 4, 1, 3, 5};
            for (int i = 0; i < 6; i++) {
                check.due("WANTED " + wanted + ", worker " + order[i], hall.why(0, order[i], 0), i < wanted ? 5 : 6);
            }
        }
        HiringHall nobody = new HiringHall();
        nobody.call(0, 1, 1, -1, 0);
        check.due("without workers", nobody.morning(), 0);
    }

    private static void terms3_theFirstThatHolds(Check check) {
        check.words("Terms 3", "Of one who is come to, by the first that holds:");
        HiringHall hall = new HiringHall();
        Check.vote(hall, "answer 1;", 0);
        for (int i = 0; i < 5; i++) {
            hall.worker(0);
        }
        hall.paper(0, 7, 99);
        hall.here(0, 0, 0, 10);
        for (int worker = 2; worker < 5; worker++) {
            hall.paper(worker, 0, 99);
        }
        hall.here(3, 0, 50, 51);
        hall.here(4, 0, 51, 52);
        hall.call(7, 1, 1, -1, 0);
        hall.call(0, 1, 1, -1, 50);
        for (int worker = 0; worker < 4; worker++) {
            hall.refuse(1, worker);
        }
        check.due("SENT", hall.morning(), 2);
        check.whys(hall, 1, 1, 50, 2, 50, 3, 50, 4, 50, 5, 51);
        int[] refusals = {0, 0, 0, 1, 0};
        for (int worker = 0; worker < 5; worker++) {
            check.due("refusals of " + worker, hall.look(worker, 3), refusals[worker]);
        }
    }

    private static void terms3_onAJob(Check check) {
        check.words("Terms 3", "1 on a job (that DAY, or SENT this morning): passed.");
        HiringHall hall = new HiringHall();
        Check.ready(hall, 0, 0, 0, 1, 2);
        int[] due = {5, 1, 5};
        for (int day = 0; day < 3; day++) {
            hall.call(0, 2, 1, -1, 0);
            hall.morning();
            check.due("on DAY " + day, hall.why(day, 0, 0), due[day]);
        }
        HiringHall morning = new HiringHall();
        Check.ready(morning, 0, 0, 0);
        morning.call(0, 1, 1, -1, 0);
        morning.call(0, 1, 1, -1, 0);
        check.due("SENT once this morning", morning.morning(), 1);
        check.whys(morning, 0, 5, 0);
        check.whys(morning, 1, 1, 0);
    }

    private static void terms3_noPaper(Check check) {
        check.words("Terms 3", "2 no PAPER for the SKILL that holds that DAY: passed.");
        HiringHall hall = new HiringHall();
        hall.worker(0);
        hall.here(0, 0, 0, 600);
        hall.here(0, 1, 0, 600);
        hall.paper(0, 3, 0);
        hall.call(2, 1, 1, -1, 0);
        hall.call(4, 1, 1, -1, 1);
        hall.call(3, 1, 1, -1, 2);
        check.due("on its last DAY", hall.morning(), 1);
        check.whys(hall, 0, 2, 0);
        check.whys(hall, 1, 2, 1);
        check.whys(hall, 2, 5, 2);
        hall.call(3, 1, 1, -1, 0);
        check.due("on the DAY behind", hall.morning(), 0);
        check.whys(hall, 3, 2, 0);
    }

    private static void terms3_notHere(Check check) {
        check.words("Terms 3", "3 not HERE at the clock's MINUTE (from it on, ahead of the other one): passed.");
        int[][] fromToMinute = {{10, 20, 9, 3}, {10, 20, 10, 5}, {10, 20, 19, 5}, {10, 20, 20, 3}, {0, 1, 0, 5},
            {0, 1, 1, 3}, {599, 600, 598, 3}, {599, 600, 599, 5}, {0, 600, 0, 5}, {0, 600, 599, 5}};
        for (int[] row : fromToMinute) {
            HiringHall hall = new HiringHall();
            Check.ready(hall, 0, 0);
            hall.here(0, 0, row[0], row[1]);
            hall.call(0, 1, 1, -1, row[2]);
            hall.morning();
            check.whys(hall, 0, row[3], row[2]);
        }
        HiringHall stepped = new HiringHall();
        Check.vote(stepped, "answer 5;", 0);
        Check.ready(stepped, 0, 0, 0);
        for (int worker = 1; worker < 4; worker++) {
            Check.ready(stepped, 0, 0);
            stepped.here(worker, 0, worker == 2 ? 11 : 0, worker == 1 ? 10 : 12);
        }
        stepped.call(0, 1, 1, -1, 5);
        stepped.refuse(0, 0);
        stepped.morning();
        check.whys(stepped, 0, 4, 5, 3, 10, 3, 10, 5, 10);
    }

    private static void terms3_oneRefusalMore(Check check) {
        check.words("Terms 3", "4 told to refuse: one refusal more;");
        HiringHall hall = new HiringHall();
        Check.ready(hall, 0, 0, 0, 1);
        check.due("at first", hall.look(0, 3), 0);
        hall.refuse(hall.call(0, 1, 1, -1, 0), 0);
        hall.refuse(hall.call(0, 1, 1, -1, 0), 0);
        check.due("told, and not done yet", hall.look(0, 3), 0);
        hall.morning();
        check.due("two of one MORNING", hall.look(0, 3), 2);
        hall.refuse(hall.call(0, 1, 1, -1, 0), 0);
        hall.morning();
        check.due("one more on the next DAY", hall.look(0, 3), 3);
        hall.morning();
        check.due("a MORNING without a CALL", hall.look(0, 3), 3);
    }

    private static void terms3_asManyAsRefuseSays(Check check) {
        check.words("Terms 3", "with as many as refuse says (above 0) it goes to the end of its LIST and has none;");
        int[][] refusals = {{1, 2, 3, 4}, {0, 0, 0, 0}, {1, 0, 1, 0}, {1, 2, 0, 1}, {1, 2, 3, 0}, {1, 2, 3, 4}};
        for (int refuse = 0; refuse <= 5; refuse++) {
            HiringHall hall = new HiringHall();
            Check.vote(hall, "refuse " + refuse + ";", 0);
            Check.ready(hall, 0, 0, 0, 1, 2, 3);
            hall.worker(0);
            boolean isAtEnd = false;
            for (int day = 0; day < 4; day++) {
                hall.refuse(hall.call(0, 1, 1, -1, 0), 0);
                hall.morning();
                isAtEnd = isAtEnd || refusals[refuse][day] == 0;
                check.due("refuse " + refuse + ", DAY " + day, hall.look(0, 3), refusals[refuse][day]);
                check.list(hall, 0, isAtEnd ? 1 : 0, isAtEnd ? 0 : 1);
            }
        }
    }

    private static void terms3_asManyAfterAChange(Check check) {
        check.words("Terms 3", "with as many as refuse says (above 0) it goes to the end of its LIST and has none;");
        HiringHall hall = new HiringHall();
        Check.vote(hall, "refuse 5;", 0);
        Check.vote(hall, "refuse 1;", 2);
        Check.ready(hall, 0, 0, 0, 1, 3);
        hall.worker(0);
        hall.refuse(hall.call(0, 1, 1, -1, 0), 0);
        hall.morning();
        hall.refuse(hall.call(0, 1, 1, -1, 0), 0);
        hall.morning();
        hall.morning();
        check.due("without a refusal nothing happens", hall.look(0, 3), 2);
        check.list(hall, 0, 0, 1);
        hall.refuse(hall.call(0, 1, 1, -1, 0), 0);
        hall.morning();
        check.due("with more than as many it has none", hall.look(0, 3), 0);
        check.list(hall, 0, 1, 0);
    }

    private static void terms3_answerMinutesLater(Check check) {
        check.words("Terms 3", "the clock is answer MINUTES later.");
        int[][] answerAndMinute = {{0, 599, 599, 5}, {1, 598, 599, 5}, {1, 599, 600, 3}, {999, 0, 999, 3},
            {999, 599, 1598, 3}};
        for (int[] row : answerAndMinute) {
            HiringHall hall = new HiringHall();
            Check.vote(hall, "answer " + row[0] + ";", 0);
            Check.ready(hall, 0, 0, 0);
            Check.ready(hall, 1, 0, 0);
            hall.call(0, 1, 1, -1, row[1]);
            hall.refuse(0, 0);
            hall.morning();
            check.whys(hall, 0, 4, row[1], row[3], row[2]);
        }
        HiringHall full = sixteenReady();
        Check.vote(full, "answer 40;", 0);
        full.call(0, 1, 1, -1, 0);
        for (int worker = 0; worker < 16; worker++) {
            full.refuse(0, worker);
        }
        full.morning();
        for (int worker = 0; worker < 16; worker++) {
            check.due("the clock of worker " + worker, full.why(0, worker, 1), 40 * worker);
            check.due("worker " + worker, full.why(0, worker, 0), worker < 15 ? 4 : 3);
        }
    }

    private static void terms3_elseSent(Check check) {
        check.words("Terms 3", "5 else SENT: on the job from this DAY on, so many DAYS; no refusals.");
        HiringHall hall = new HiringHall();
        Check.ready(hall, 0, 0, 0, 1, 2, 3);
        hall.refuse(hall.call(0, 1, 1, -1, 0), 0);
        hall.morning();
        check.due("one refusal", hall.look(0, 3), 1);
        hall.call(0, 2, 1, -1, 0);
        hall.morning();
        check.due("none, being SENT", hall.look(0, 3), 0);
        check.due("on the job from this DAY on", hall.look(0, 2), 1);
        hall.refuse(hall.call(0, 1, 1, -1, 0), 0);
        hall.morning();
        check.due("on the job on its second DAY", hall.look(0, 2), 1);
        check.due("one on a job refuses nothing", hall.look(0, 3), 0);
        hall.morning();
        check.none("no more on the third", hall.look(0, 2));
    }

    private static void terms3_notComeTo(Check check) {
        check.words("Terms 3", "All others who have signed: 6 not come to.");
        HiringHall hall = new HiringHall();
        Check.ready(hall, 0, 0, 0);
        hall.worker(0);
        hall.worker(2);
        hall.call(0, 1, 1, -1, 3);
        hall.refuse(0, 1);
        hall.morning();
        hall.worker(0);
        check.whys(hall, 0, 5, 3, 6, -1, 6, -1, 0, -1);
        check.due("one who is not come to refuses nothing", hall.look(1, 3), 0);
    }
}
