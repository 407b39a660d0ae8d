/** The boundaries that Terms 2 names: workers, papers, HERE, CALLS and refusals told. */
final class Terms2Edges {
    static void run(Check check) {
        terms2_workersAtMost16(check);
        terms2_books(check);
        terms2_signedOnTheDayTheyCame(check);
        terms2_skill0To7(check);
        terms2_fromTheDayToldToALastDay(check);
        terms2_latestPaperAsOfTheDayTold(check);
        terms2_hereTodayOrLater(check);
        terms2_latestHereCounts(check);
        terms2_withoutHereNotHere(check);
        terms2_callsAtMost60(check);
        terms2_callOfTodaysMorning(check);
        terms2_days1To30(check);
        terms2_wanted1To9(check);
        terms2_byName(check);
        terms2_atAMinute(check);
        terms2_toldToRefuse(check);
    }

    private static void terms2_workersAtMost16(Check check) {
        check.words("Terms 2", "WORKERS, at most 16");
        HiringHall hall = new HiringHall();
        for (int worker = 0; worker < 16; worker++) {
            check.due("worker", Check.ready(hall, 0, 0, 0), worker);
        }
        check.none("a seventeenth", hall.worker(0));
        check.none("a seventeenth of another BOOK", hall.worker(2));
        check.due("workers", hall.count(1), 16);
        hall.call(0, 1, 9, -1, 0);
        hall.call(0, 1, 9, -1, 0);
        check.due("all sixteen are SENT", hall.morning(), 16);
        check.due("the sixteenth", hall.why(1, 15, 0), 5);
        check.none("there is no seventeenth", hall.why(1, 16, 0));
        check.none("a seventeenth on a later DAY", hall.worker(1));
    }

    private static void terms2_books(Check check) {
        check.words("Terms 2", "each of a BOOK 0, 1, 2");
        HiringHall hall = new HiringHall();
        check.none("BOOK -1", hall.worker(-1));
        check.none("BOOK 3", hall.worker(3));
        for (int book = 0; book < 3; book++) {
            check.due("BOOK " + book, hall.worker(book), book);
        }
        hall.morning();
        for (int book = 0; book < 3; book++) {
            check.due("look", hall.look(book, 0), book);
            check.list(hall, book, book);
        }
    }

    private static void terms2_signedOnTheDayTheyCame(Check check) {
        check.words("Terms 2", "signed on the DAY on which they came.");
        HiringHall hall = new HiringHall();
        hall.worker(0);
        hall.call(0, 1, 1, -1, 0);
        hall.morning();
        hall.worker(0);
        hall.call(0, 1, 1, -1, 0);
        hall.morning();
        check.due("came on DAY 0", hall.look(0, 1), 0);
        check.due("came on DAY 1", hall.look(1, 1), 1);
        check.whys(hall, 0, 2, 0, 0, -1);
        check.whys(hall, 1, 2, 0, 2, 0);
        Check.mornings(hall, 97);
        hall.worker(0);
        check.due("came on DAY 99", hall.look(2, 1), 99);
    }

    private static void terms2_skill0To7(Check check) {
        check.words("Terms 2", "PAPERS: of a worker, for a SKILL 0 .. 7");
        HiringHall hall = new HiringHall();
        hall.worker(0);
        hall.worker(0);
        hall.here(0, 0, 0, 600);
        hall.here(1, 0, 0, 600);
        check.no("a PAPER for -1", hall.paper(0, -1, 99));
        check.no("a PAPER for 8", hall.paper(0, 8, 99));
        check.yes("a PAPER for 7", hall.paper(0, 7, 99));
        check.yes("a PAPER for 0", hall.paper(1, 0, 99));
        check.none("a CALL for -1", hall.call(-1, 1, 1, -1, 0));
        check.none("a CALL for 8", hall.call(8, 1, 1, -1, 0));
        hall.call(6, 1, 9, -1, 0);
        hall.call(1, 1, 9, -1, 0);
        hall.call(7, 1, 9, -1, 1);
        hall.call(0, 1, 9, -1, 1);
        check.due("one each for 7 and 0", hall.morning(), 2);
        check.whys(hall, 0, 2, 0, 2, 0);
        check.whys(hall, 1, 2, 0, 2, 0);
        check.whys(hall, 2, 5, 1, 2, 1);
        check.whys(hall, 3, 1, 1, 5, 1);
    }

    private static void terms2_fromTheDayToldToALastDay(Check check) {
        check.words("Terms 2", "from the DAY told to a last DAY");
        HiringHall hall = new HiringHall();
        hall.worker(0);
        for (int day = 0; day <= 5; day++) {
            hall.here(0, day, 0, 600);
        }
        int[] due = {2, 5, 5, 5, 2, 2};
        for (int day = 0; day <= 5; day++) {
            if (day == 1) {
                hall.paper(0, 4, 3);
            }
            if (day == 5) {
                check.yes("a last DAY that is over", hall.paper(0, 4, 4));
            }
            hall.call(4, 1, 1, -1, 0);
            hall.morning();
            check.due("on DAY " + day, hall.why(day, 0, 0), due[day]);
        }
        HiringHall last = Check.onDay(98);
        last.worker(0);
        last.here(0, 98, 0, 600);
        last.paper(0, 0, 98);
        last.call(0, 1, 1, -1, 0);
        check.due("told on its last DAY", last.morning(), 1);
    }

    private static void terms2_latestPaperAsOfTheDayTold(Check check) {
        check.words("Terms 2", "(the latest told for that SKILL counts, as of the DAY on which it was told).");
        HiringHall hall = new HiringHall();
        for (int worker = 0; worker < 3; worker++) {
            hall.worker(2);
            hall.here(worker, 0, 0, 600);
            hall.here(worker, 1, 0, 600);
        }
        hall.paper(0, 0, 99);
        hall.paper(2, 0, 0);
        hall.paper(2, 0, 99);
        hall.call(0, 1, 9, -1, 0);
        hall.morning();
        hall.paper(0, 0, 0);
        hall.paper(1, 0, 99);
        hall.paper(2, 1, 0);
        hall.call(0, 1, 9, -1, 0);
        hall.morning();
        Check.vote(hall, "permit 1;", 0);
        check.due("anew", hall.anew(2, 2), 4);
        int[][] due = {{0, 0}, {0, 2}, {1, 1}, {1, 2}};
        for (int k = 0; k < 4; k++) {
            check.due("differs(" + k + ", 0)", hall.differs(k, 0), due[k][0]);
            check.due("differs(" + k + ", 1)", hall.differs(k, 1), due[k][1]);
        }
    }

    private static void terms2_hereTodayOrLater(Check check) {
        check.words("Terms 2", "HERE: of a worker and a DAY (TODAY or later)");
        HiringHall hall = Check.onDay(2);
        Check.ready(hall, 0, 0);
        check.no("yesterday", hall.here(0, 1, 0, 600));
        check.yes("TODAY", hall.here(0, 2, 0, 600));
        check.yes("tomorrow", hall.here(0, 3, 0, 600));
        check.yes("the last DAY", hall.here(0, 99, 0, 600));
        check.no("behind the last DAY", hall.here(0, 100, 0, 600));
        int[] due = {5, 5, 3};
        for (int i = 0; i < 3; i++) {
            hall.call(0, 1, 1, -1, 0);
            hall.morning();
            check.due("on DAY " + (2 + i), hall.why(i, 0, 0), due[i]);
        }
    }

    private static void terms2_latestHereCounts(Check check) {
        check.words("Terms 2", "from a MINUTE to another (the latest told counts)");
        HiringHall hall = new HiringHall();
        Check.ready(hall, 0, 0, 0, 99);
        Check.ready(hall, 0, 0, 1);
        hall.here(0, 0, 10, 20);
        hall.call(0, 1, 9, -1, 9);
        hall.call(0, 1, 9, -1, 20);
        hall.call(0, 1, 9, -1, 19);
        hall.morning();
        check.whys(hall, 0, 3, 9, 3, 9);
        check.whys(hall, 2, 5, 19, 3, 19);
        check.whys(hall, 1, 1, 20, 3, 20);
        hall.here(1, 1, 599, 600);
        hall.here(1, 1, 0, 5);
        hall.call(0, 1, 9, -1, 4);
        hall.morning();
        check.whys(hall, 3, 3, 4, 5, 4);
    }

    private static void terms2_withoutHereNotHere(Check check) {
        check.words("Terms 2", "without it the worker is not.");
        HiringHall hall = new HiringHall();
        Check.ready(hall, 0, 0);
        Check.ready(hall, 0, 0, 1);
        hall.call(0, 1, 9, -1, 0);
        hall.call(0, 1, 9, -1, 599);
        check.due("nobody is SENT", hall.morning(), 0);
        check.whys(hall, 0, 3, 0, 3, 0);
        check.whys(hall, 1, 3, 599, 3, 599);
    }

    private static void terms2_callsAtMost60(Check check) {
        check.words("Terms 2", "CALLS, at most 60:");
        HiringHall hall = new HiringHall();
        Check.ready(hall, 0, 0, 0, 1);
        for (int call = 0; call < 30; call++) {
            check.due("of DAY 0", hall.call(0, 1, 1, -1, 30 - call), call);
        }
        check.due("DAY 0", hall.morning(), 1);
        for (int call = 30; call < 60; call++) {
            check.due("of DAY 1", hall.call(0, 1, 1, -1, 100 - call), call);
        }
        check.none("a 61st", hall.call(0, 1, 1, -1, 0));
        check.due("CALLS", hall.count(2), 60);
        check.due("DAY 1", hall.morning(), 1);
        check.due("the earliest of DAY 0", hall.why(29, 0, 0), 5);
        check.due("the 60th is the earliest of DAY 1", hall.why(59, 0, 0), 5);
        check.none("there is no 61st", hall.why(60, 0, 0));
        check.none("CALLS that are done make no room", hall.call(0, 1, 1, -1, 0));
    }

    private static void terms2_callOfTodaysMorning(Check check) {
        check.words("Terms 2", "of TODAY's morning: a SKILL");
        HiringHall hall = new HiringHall();
        Check.ready(hall, 0, 0, 0, 1, 2);
        check.due("DAY 0 has no CALL", hall.morning(), 0);
        hall.call(0, 1, 1, -1, 0);
        check.none("not done yet", hall.why(0, 0, 0));
        check.due("DAY 1 has it", hall.morning(), 1);
        check.due("DAY 2 has it no more", hall.morning(), 0);
        check.due("SENT by it", hall.why(0, 0, 0), 5);
    }

    private static void terms2_days1To30(Check check) {
        check.words("Terms 2", "for so many DAYS (1 .. 30)");
        HiringHall hall = new HiringHall();
        Check.ready(hall, 0, 0, 0);
        Check.ready(hall, 0, 1, 0);
        check.none("0 DAYS", hall.call(0, 0, 1, -1, 0));
        check.none("31 DAYS", hall.call(0, 31, 1, -1, 0));
        check.due("1 DAY", hall.call(0, 1, 1, -1, 0), 0);
        check.due("30 DAYS", hall.call(1, 30, 1, -1, 0), 1);
        hall.morning();
        check.due("on DAY 0", hall.look(0, 2), 0);
        hall.morning();
        check.none("back on DAY 1", hall.look(0, 2));
        Check.mornings(hall, 28);
        check.due("on DAY 29", hall.look(1, 2), 1);
        hall.morning();
        check.none("back on DAY 30", hall.look(1, 2));
    }

    private static void terms2_wanted1To9(Check check) {
        check.words("Terms 2", "so many WANTED (1 .. 9)");
        HiringHall hall = new HiringHall();
        for (int i = 0; i < 11; i++) {
            Check.ready(hall, 0, 0, 0);
        }
        check.none("0 WANTED", hall.call(0, 1, 0, -1, 0));
        check.none("10 WANTED", hall.call(0, 1, 10, -1, 0));
        check.due("1 WANTED", hall.call(0, 1, 1, -1, 0), 0);
        check.due("9 WANTED", hall.call(0, 1, 9, -1, 1), 1);
        check.due("ten of eleven are SENT", hall.morning(), 10);
        check.whys(hall, 0, 5, 0, 6, -1);
        check.due("the ninth", hall.why(1, 9, 0), 5);
        check.due("the one behind the ninth", hall.why(1, 10, 0), 6);
    }

    private static void terms2_byName(Check check) {
        check.words("Terms 2", "perhaps a worker by NAME");
        HiringHall hall = new HiringHall();
        check.none("0 while nobody is there", hall.call(0, 1, 1, 0, 0));
        check.due("NONE while nobody is there", hall.call(0, 1, 1, HiringHall.NONE, 0), 0);
        hall.worker(0);
        hall.worker(2);
        check.none("-2", hall.call(0, 1, 1, -2, 0));
        check.none("the number behind the last worker", hall.call(0, 1, 1, 2, 0));
        check.due("the first worker", hall.call(0, 1, 1, 0, 0), 1);
        check.due("the last worker", hall.call(0, 1, 1, 1, 0), 2);
    }

    private static void terms2_atAMinute(Check check) {
        check.words("Terms 2", "at a MINUTE.");
        HiringHall hall = new HiringHall();
        check.none("at -1", hall.call(0, 1, 1, -1, -1));
        check.none("at 600, where HERE may end", hall.call(0, 1, 1, -1, 600));
        check.due("at 0", hall.call(0, 1, 1, -1, 0), 0);
        check.due("at 599", hall.call(0, 1, 1, -1, 599), 1);
    }

    private static void terms2_toldToRefuse(Check check) {
        check.words("Terms 2", "A worker may be told to refuse a CALL of TODAY.");
        HiringHall hall = new HiringHall();
        for (int i = 0; i < 16; i++) {
            Check.ready(hall, i % 3, 0, 0);
        }
        Check.vote(hall, "permit 1;", 0);
        hall.call(0, 1, 9, -1, 0);
        for (int worker = 0; worker < 16; worker++) {
            check.yes("worker " + worker, hall.refuse(0, worker));
        }
        check.due("all sixteen refuse", hall.morning(), 0);
        for (int worker = 0; worker < 16; worker++) {
            check.due("why of " + worker, hall.why(0, worker, 0), 4);
        }
        check.no("a CALL of yesterday", hall.refuse(0, 0));
    }
}
