import java.util.Arrays;

/** The boundaries that promises 7 to 11 name: what is told of workers and CALLS. */
final class TellingPromiseEdges {
    private static final int LEAST = Integer.MIN_VALUE;
    private static final int MOST = Integer.MAX_VALUE;

    static void run(Check check) {
        promise7_comesToday(check);
        promise7_noSuchBookOr16(check);
        promise8_paper(check);
        promise8_noSuch(check);
        promise8_100WereTold(check);
        promise9_here(check);
        promise9_noSuch(check);
        promise9_200WereTold(check);
        promise10_call(check);
        promise10_itCannotBe(check);
        promise10_thereAre60(check);
        promise11_toldToRefuse(check);
        promise11_noSuchOnesOrToldAlready(check);
        promise11_onTheLastDay(check);
    }

    private static void promise7_comesToday(Check check) {
        check.words("Promise 7", "A worker comes TODAY: the number;");
        HiringHall hall = new HiringHall();
        check.due("the first", hall.worker(2), 0);
        check.due("the second", hall.worker(0), 1);
        Check.mornings(hall, 99);
        check.due("one on the last DAY", hall.worker(1), 2);
        int[] signed = {0, 0, 99};
        for (int worker = 0; worker < 3; worker++) {
            check.due("the DAY of worker " + worker, hall.look(worker, 1), signed[worker]);
        }
        check.none("the one of the last DAY is on no LIST", hall.list(1, 0));
    }

    private static void promise7_noSuchBookOr16(Check check) {
        check.words("Promise 7", "NONE: no such BOOK, or 16 there are.");
        HiringHall hall = new HiringHall();
        int[] books = {-1, 3, LEAST, MOST};
        for (int book : books) {
            check.none("worker(" + book + ")", hall.worker(book));
        }
        check.due("workers", hall.count(1), 0);
        for (int worker = 0; worker < 16; worker++) {
            check.due("worker", hall.worker(2), worker);
        }
        String before = Check.state(hall);
        for (int book = 0; book < 3; book++) {
            check.none("a seventeenth of BOOK " + book, hall.worker(book));
        }
        check.unchanged("behind it", before, hall);
        hall.morning();
        check.list(hall, 0);
        check.list(hall, 2, 0, 1, 2, 3, 4, 5, 6, 7, 8, 9, 10, 11, 12, 13, 14, 15);
    }

    private static void promise8_paper(Check check) {
        check.words("Promise 8", "A PAPER: true;");
        HiringHall hall = new HiringHall();
        hall.worker(0);
        check.yes("the least of all", hall.paper(0, 0, 0));
        check.yes("the most of all", hall.paper(0, 7, 99));
        check.yes("told again", hall.paper(0, 7, 99));
        Check.mornings(hall, 99);
        check.yes("on the last DAY", hall.paper(0, 0, 99));
        check.yes("on the last DAY, for one that is over", hall.paper(0, 0, 0));
    }

    private static void promise8_noSuch(Check check) {
        check.words("Promise 8", "false: no such worker, SKILL, last DAY (0 .. 99)");
        HiringHall hall = new HiringHall();
        check.no("nobody is there", hall.paper(0, 0, 0));
        Check.ready(hall, 0, 0, 0);
        String before = Check.state(hall);
        int[][] refused = {{-1, 0, 0}, {1, 0, 0}, {0, -1, 0}, {0, 8, 0}, {0, 0, -1}, {0, 0, 100},
            {LEAST, 0, 0}, {0, LEAST, 0}, {0, 0, LEAST}, {MOST, 0, 0}, {0, MOST, 0}, {0, 0, MOST}};
        for (int[] r : refused) {
            check.no("paper" + Arrays.toString(r), hall.paper(r[0], r[1], r[2]));
        }
        check.unchanged("behind them", before, hall);
        hall.call(0, 1, 1, -1, 0);
        check.due("the PAPER told ahead of them holds", hall.morning(), 1);
    }

    private static void promise8_100WereTold(Check check) {
        check.words("Promise 8", "or 100 were told.");
        HiringHall hall = new HiringHall();
        hall.worker(0);
        hall.here(0, 1, 0, 600);
        for (int i = 0; i < 50; i++) {
            check.yes("paper " + i, hall.paper(0, i % 8, i));
        }
        hall.morning();
        for (int i = 50; i < 99; i++) {
            check.no("a refused one is none of the 100", hall.paper(0, 8, 0));
            check.yes("paper " + i, hall.paper(0, i % 8, 0));
        }
        check.yes("the hundredth", hall.paper(0, 5, 1));
        check.no("one more", hall.paper(0, 5, 0));
        check.no("one more for another SKILL", hall.paper(0, 6, 99));
        hall.call(6, 1, 1, -1, 0);
        hall.call(5, 1, 1, -1, 1);
        check.due("the hundredth holds", hall.morning(), 1);
        check.whys(hall, 0, 2, 0);
        check.whys(hall, 1, 5, 1);
        check.no("one more on a later DAY", hall.paper(0, 5, 99));
    }

    private static void promise9_here(Check check) {
        check.words("Promise 9", "HERE: true;");
        HiringHall hall = new HiringHall();
        hall.worker(0);
        check.yes("the first MINUTE alone", hall.here(0, 0, 0, 1));
        check.yes("the last MINUTE alone", hall.here(0, 0, 599, 600));
        check.yes("all the morning", hall.here(0, 0, 0, 600));
        check.yes("the last DAY", hall.here(0, 99, 0, 600));
        Check.mornings(hall, 99);
        check.yes("on the last DAY", hall.here(0, 99, 0, 600));
        check.no("on the last DAY, of the one ahead", hall.here(0, 98, 0, 600));
    }

    private static void promise9_noSuch(Check check) {
        check.words("Promise 9", "false: no such worker, DAY, MINUTES (0 .. 600, from below to)");
        HiringHall hall = Check.onDay(1);
        check.no("nobody is there", hall.here(0, 1, 0, 600));
        Check.ready(hall, 0, 0);
        hall.here(0, 1, 100, 101);
        String before = Check.state(hall);
        int[][] refused = {{-1, 1, 0, 600}, {1, 1, 0, 600}, {0, 0, 0, 600}, {0, -1, 0, 600}, {0, 100, 0, 600},
            {0, 1, -1, 600}, {0, 1, 0, 601}, {0, 1, 0, 0}, {0, 1, 600, 600}, {0, 1, 300, 300}, {0, 1, 301, 300},
            {0, 1, 600, 601}, {0, 1, -1, 0}, {LEAST, 1, 0, 600}, {0, LEAST, 0, 600}, {0, 1, LEAST, 600},
            {0, 1, 0, LEAST}, {MOST, 1, 0, 600}, {0, MOST, 0, 600}, {0, 1, MOST, 600}, {0, 1, 0, MOST},
            {0, 1, LEAST, MOST}};
        for (int[] r : refused) {
            check.no("here" + Arrays.toString(r), hall.here(r[0], r[1], r[2], r[3]));
        }
        check.unchanged("behind them", before, hall);
        hall.call(0, 1, 1, -1, 99);
        hall.call(0, 1, 1, -1, 101);
        hall.call(0, 1, 1, -1, 100);
        check.due("the HERE told ahead of them counts", hall.morning(), 1);
        check.whys(hall, 0, 3, 99);
        check.whys(hall, 2, 5, 100);
    }

    private static void promise9_200WereTold(Check check) {
        check.words("Promise 9", "or 200 were told.");
        HiringHall hall = new HiringHall();
        Check.ready(hall, 0, 0);
        Check.ready(hall, 0, 0);
        for (int i = 0; i < 100; i++) {
            check.yes("of worker 0", hall.here(0, i, 0, 1));
        }
        for (int i = 0; i < 99; i++) {
            check.no("a refused one is none of the 200", hall.here(1, i, 1, 1));
            check.yes("of worker 1", hall.here(1, i, 0, 1));
        }
        check.yes("the 200th", hall.here(1, 0, 5, 6));
        check.no("one more", hall.here(1, 0, 0, 600));
        check.no("one more of another DAY", hall.here(1, 99, 0, 600));
        hall.call(0, 1, 1, -1, 4);
        hall.call(0, 1, 1, -1, 5);
        check.due("the 200th counts", hall.morning(), 1);
        check.whys(hall, 0, 3, 4, 3, 4);
        check.whys(hall, 1, 3, 5, 5, 5);
        check.no("one more on a later DAY", hall.here(1, 1, 0, 600));
    }

    private static void promise10_call(Check check) {
        check.words("Promise 10", "A CALL (name NONE: nobody): its number;");
        HiringHall hall = new HiringHall();
        Check.vote(hall, "name 1;", 0);
        Check.ready(hall, 0, 7, 0);
        Check.ready(hall, 0, 7, 0);
        check.due("the least of all", hall.call(0, 1, 1, HiringHall.NONE, 0), 0);
        check.due("the most of all", hall.call(7, 30, 9, 1, 599), 1);
        check.due("nobody by NAME", hall.call(7, 1, 1, HiringHall.NONE, 5), 2);
        hall.morning();
        check.due("down the LIST", hall.look(0, 2), 2);
        check.due("by NAME", hall.look(1, 2), 1);
        Check.mornings(hall, 98);
        check.due("on the last DAY", hall.call(0, 1, 1, -1, 0), 3);
        check.none("whose MORNING is never done", hall.why(3, 0, 0));
    }

    private static void promise10_itCannotBe(Check check) {
        check.words("Promise 10", "NONE: it can't be");
        HiringHall hall = new HiringHall();
        Check.ready(hall, 0, 0, 0);
        String before = Check.state(hall);
        int[][] refused = {{-1, 1, 1, -1, 0}, {8, 1, 1, -1, 0}, {0, 0, 1, -1, 0}, {0, 31, 1, -1, 0}, {0, 1, 0, -1, 0},
            {0, 1, 10, -1, 0}, {0, 1, 1, -2, 0}, {0, 1, 1, 1, 0}, {0, 1, 1, -1, -1}, {0, 1, 1, -1, 600},
            {LEAST, 1, 1, -1, 0}, {0, LEAST, 1, -1, 0}, {0, 1, LEAST, -1, 0}, {0, 1, 1, LEAST, 0},
            {0, 1, 1, -1, LEAST}, {MOST, 1, 1, -1, 0}, {0, MOST, 1, -1, 0}, {0, 1, MOST, -1, 0}, {0, 1, 1, MOST, 0},
            {0, 1, 1, -1, MOST}};
        for (int[] r : refused) {
            check.none("call" + Arrays.toString(r), hall.call(r[0], r[1], r[2], r[3], r[4]));
        }
        check.unchanged("behind them", before, hall);
        check.no("there is no CALL to refuse", hall.refuse(0, 0));
        check.due("nobody is SENT", hall.morning(), 0);
        check.due("the next has number 0", hall.call(0, 1, 1, -1, 0), 0);
    }

    private static void promise10_thereAre60(Check check) {
        check.words("Promise 10", "or there are 60.");
        HiringHall hall = new HiringHall();
        Check.ready(hall, 0, 0, 0);
        for (int call = 0; call < 60; call++) {
            check.due("call", hall.call(call == 59 ? 0 : 1, 1, 1, -1, 599), call);
        }
        check.yes("the 60th may be refused", hall.refuse(59, 0));
        String before = Check.state(hall);
        check.none("a 61st", hall.call(0, 1, 1, -1, 0));
        check.no("it can't be refused", hall.refuse(60, 0));
        check.unchanged("behind it", before, hall);
        check.due("nobody is SENT", hall.morning(), 0);
        check.whys(hall, 59, 4, 599);
        check.none("a 61st on the next DAY", hall.call(0, 1, 1, -1, 0));
    }

    private static void promise11_toldToRefuse(Check check) {
        check.words("Promise 11", "A worker is told to refuse a CALL of TODAY: true;");
        HiringHall hall = new HiringHall();
        for (int i = 0; i < 16; i++) {
            Check.ready(hall, 0, 0, 0);
        }
        hall.call(0, 1, 9, -1, 0);
        hall.call(0, 1, 9, -1, 1);
        check.yes("the last worker", hall.refuse(0, 15));
        check.yes("the first worker", hall.refuse(0, 0));
        check.yes("another CALL", hall.refuse(1, 15));
        check.due("fifteen are SENT", hall.morning(), 15);
        check.due("worker 0 refused", hall.why(0, 0, 0), 4);
        check.due("worker 1 did not", hall.why(0, 1, 0), 5);
        check.due("worker 15 was not come to", hall.why(0, 15, 0), 6);
        check.due("worker 0 refuses that one alone", hall.why(1, 0, 0), 5);
        check.due("worker 15 refused the other", hall.why(1, 15, 0), 4);
    }

    private static void promise11_noSuchOnesOrToldAlready(Check check) {
        check.words("Promise 11", "false: no such ones, or told so already.");
        HiringHall hall = new HiringHall();
        check.no("nothing told yet", hall.refuse(0, 0));
        Check.ready(hall, 0, 0, 0, 1);
        check.no("no CALL yet", hall.refuse(0, 0));
        hall.call(0, 1, 1, -1, 0);
        hall.morning();
        hall.call(1, 1, 1, -1, 0);
        check.yes("refuse(1, 0)", hall.refuse(1, 0));
        hall.call(0, 1, 1, -1, 0);
        String before = Check.state(hall);
        int[][] refused = {{0, 0}, {1, 0}, {3, 0}, {-1, 0}, {2, 1}, {2, -1}, {2, 16}, {2, 32}, {LEAST, 0}, {MOST, 0},
            {2, LEAST}, {2, MOST}};
        for (int[] r : refused) {
            check.no("refuse" + Arrays.toString(r), hall.refuse(r[0], r[1]));
        }
        check.unchanged("behind them", before, hall);
        check.due("the worker is SENT by the third", hall.morning(), 1);
        check.whys(hall, 0, 5, 0);
        check.whys(hall, 1, 2, 0);
        check.whys(hall, 2, 5, 0);
        check.no("a CALL of yesterday", hall.refuse(2, 0));
    }

    private static void promise11_onTheLastDay(Check check) {
        check.words("Promise 11", "A worker is told to refuse a CALL of TODAY: true;");
        HiringHall hall = Check.onDay(98);
        hall.worker(0);
        hall.call(0, 1, 1, -1, 0);
        hall.morning();
        hall.call(0, 1, 1, -1, 0);
        check.no("the CALL of DAY 98", hall.refuse(0, 0));
        check.yes("the CALL of DAY 99", hall.refuse(1, 0));
        hall.morning();
        check.no("told so already, TODAY being DAY 99 still", hall.refuse(1, 0));
    }
}
