import java.util.Arrays;

/** The boundaries that promises 12 to 15 name: MORNINGS and what is asked of them. */
final class MorningPromiseEdges {
    private static final int LEAST = Integer.MIN_VALUE;
    private static final int MOST = Integer.MAX_VALUE;

    static void run(Check check) {
        promise12_howManyWereSent(check);
        promise12_nothingHappensOnDay99(check);
        promise13_ofACallThatIsDone(check);
        promise13_notSignedThen(check);
        promise13_noSuchOnes(check);
        promise14_kthOnTheList(check);
        promise14_noneSuch(check);
        promise15_look(check);
        promise15_byTheLatestMorning(check);
        promise15_noneSuch(check);
    }

    private static void promise12_howManyWereSent(Check check) {
        check.words("Promise 12", "TODAY's MORNING is worked, and TODAY is the next DAY: how many were SENT;");
        HiringHall hall = new HiringHall();
        check.due("without anything", hall.morning(), 0);
        check.due("TODAY", hall.count(0), 1);
        for (int i = 0; i < 16; i++) {
            Check.ready(hall, i % 2, 0, 1, 2);
        }
        hall.call(0, 1, 9, -1, 0);
        hall.call(0, 1, 9, -1, 0);
        check.due("all sixteen", hall.morning(), 16);
        check.due("TODAY", hall.count(0), 2);
        hall.call(0, 1, 1, -1, 0);
        check.due("of this MORNING alone", hall.morning(), 1);
        check.due("all SENT", hall.count(4), 17);
        HiringHall last = Check.onDay(98);
        Check.ready(last, 0, 0, 98);
        last.call(0, 1, 1, -1, 0);
        check.due("on DAY 98", last.morning(), 1);
        check.due("TODAY", last.count(0), 99);
    }

    private static void promise12_nothingHappensOnDay99(Check check) {
        check.words("Promise 12", "NONE, and nothing happens, on DAY 99.");
        HiringHall hall = Check.onDay(98);
        Check.ready(hall, 0, 0, 98, 99);
        hall.call(0, 1, 1, -1, 0);
        hall.morning();
        Check.ready(hall, 0, 0, 99);
        hall.refuse(hall.call(0, 1, 1, -1, 0), 0);
        String before = Check.state(hall);
        check.none("morning()", hall.morning());
        check.none("morning() again", hall.morning());
        check.unchanged("behind them", before, hall);
        check.due("TODAY", hall.count(0), 99);
        check.due("the job of DAY 98 is not over", hall.look(0, 2), 0);
        check.none("who came on DAY 99 is on no LIST", hall.list(0, 0));
        check.none("its CALL is not done", hall.why(1, 0, 0));
        check.due("nobody refused", hall.look(0, 3), 0);
        check.due("and the DAY may be told of still", hall.call(0, 1, 1, -1, 0), 2);
    }

    private static void promise13_ofACallThatIsDone(Check check) {
        check.words("Promise 13", "Of a CALL whose MORNING is done and a worker, what 0: 1 .. 6 by 3.");
        HiringHall hall = new HiringHall();
        Check.vote(hall, "answer 2;", 0);
        for (int i = 0; i < 6; i++) {
            hall.worker(0);
            hall.here(i, 0, 0, i == 2 ? 1 : 600);
            hall.paper(i, i == 1 ? 1 : 0, 99);
        }
        hall.paper(0, 2, 99);
        hall.call(2, 1, 1, -1, 0);
        hall.call(0, 1, 1, -1, 1);
        hall.refuse(1, 3);
        check.none("ahead of the MORNING", hall.why(0, 0, 0));
        hall.morning();
        check.whys(hall, 1, 1, 1, 2, 1, 3, 1, 4, 1, 5, 3, 6, -1);
        hall.call(0, 1, 1, -1, 0);
        check.none("of the next one, not done yet", hall.why(2, 0, 0));
        Check.mornings(hall, 98);
        check.whys(hall, 1, 1, 1, 2, 1, 3, 1, 4, 1, 5, 3, 6, -1);
    }

    private static void promise13_notSignedThen(Check check) {
        check.words("Promise 13", "(0: not signed then), 1: the clock's MINUTE then (NONE of 0, 6).");
        HiringHall hall = new HiringHall();
        hall.call(0, 1, 1, -1, 0);
        hall.morning();
        hall.worker(0);
        check.whys(hall, 0, 0, -1);
        hall.call(0, 1, 1, -1, 0);
        hall.call(0, 1, 1, -1, 599);
        hall.worker(2);
        hall.morning();
        hall.worker(0);
        check.whys(hall, 0, 0, -1, 0, -1, 0, -1);
        check.whys(hall, 1, 2, 0, 6, -1, 0, -1);
        check.whys(hall, 2, 2, 599, 6, -1, 0, -1);
    }

    private static void promise13_noSuchOnes(Check check) {
        check.words("Promise 13", "NONE: no such ones.");
        HiringHall hall = new HiringHall();
        check.none("nothing told yet", hall.why(0, 0, 0));
        Check.ready(hall, 0, 0, 0);
        check.none("no CALL yet", hall.why(0, 0, 0));
        hall.call(0, 1, 1, -1, 0);
        hall.morning();
        hall.call(0, 1, 1, -1, 0);
        check.whys(hall, 0, 5, 0);
        int[][] refused = {{-1, 0, 0}, {1, 0, 0}, {2, 0, 0}, {0, -1, 0}, {0, 1, 0}, {0, 16, 0}, {0, 0, -1}, {0, 0, 2},
            {LEAST, 0, 0}, {0, LEAST, 0}, {0, 0, LEAST}, {MOST, 0, 0}, {0, MOST, 0}, {0, 0, MOST}};
        for (int[] r : refused) {
            check.none("why" + Arrays.toString(r), hall.why(r[0], r[1], r[2]));
        }
    }

    private static void promise14_kthOnTheList(Check check) {
        check.words("Promise 14", "The k-th who is on the LIST of a BOOK now, behind the latest MORNING (those on jobs left out);");
        HiringHall hall = new HiringHall();
        for (int i = 0; i < 4; i++) {
            Check.ready(hall, 1, i, 0);
        }
        check.list(hall, 1);
        hall.call(0, 1, 1, -1, 0);
        hall.call(2, 2, 1, -1, 0);
        hall.morning();
        check.list(hall, 1, 1, 3);
        hall.worker(1);
        check.list(hall, 1, 1, 3);
        hall.morning();
        check.list(hall, 1, 1, 3, 0, 4);
        hall.morning();
        check.list(hall, 1, 1, 3, 0, 4, 2);
    }

    private static void promise14_noneSuch(Check check) {
        check.words("Promise 14", "NONE if there is none such.");
        HiringHall hall = new HiringHall();
        check.none("nobody is there", hall.list(0, 0));
        for (int i = 0; i < 16; i++) {
            hall.worker(1);
        }
        check.none("ahead of the first MORNING", hall.list(1, 0));
        hall.morning();
        check.due("the last of sixteen", hall.list(1, 15), 15);
        int[][] refused = {{1, 16}, {1, -1}, {0, 0}, {2, 0}, {-1, 0}, {3, 0}, {0, 16}, {0, -1}, {LEAST, 0}, {MOST, 0},
            {1, LEAST}, {1, MOST}};
        for (int[] r : refused) {
            check.none("list" + Arrays.toString(r), hall.list(r[0], r[1]));
        }
    }

    private static void promise15_look(Check check) {
        check.words("Promise 15", "Of a worker, what 0: BOOK, 1: the DAY of signing,");
        HiringHall hall = new HiringHall();
        hall.worker(2);
        check.due("its BOOK, ahead of a MORNING", hall.look(0, 0), 2);
        check.due("its DAY, ahead of a MORNING", hall.look(0, 1), 0);
        check.none("no job yet", hall.look(0, 2));
        check.due("no refusals yet", hall.look(0, 3), 0);
        Check.mornings(hall, 99);
        hall.worker(0);
        check.due("the BOOK of one of the last DAY", hall.look(1, 0), 0);
        check.due("the last DAY", hall.look(1, 1), 99);
    }

    private static void promise15_byTheLatestMorning(Check check) {
        check.words("Promise 15", "2: the CALL whose job it is on by the latest MORNING (NONE), 3: refusals.");
        HiringHall hall = new HiringHall();
        Check.ready(hall, 0, 0, 0, 1, 2);
        hall.refuse(hall.call(0, 1, 1, -1, 0), 0);
        hall.morning();
        check.none("refused", hall.look(0, 2));
        check.due("one refusal", hall.look(0, 3), 1);
        hall.call(0, 1, 1, -1, 0);
        check.none("not SENT yet", hall.look(0, 2));
        hall.morning();
        check.due("though its last DAY is over TODAY", hall.look(0, 2), 1);
        check.due("no refusals", hall.look(0, 3), 0);
        hall.call(0, 1, 1, -1, 0);
        hall.morning();
        check.due("the next job at once", hall.look(0, 2), 2);
        hall.morning();
        check.none("none then", hall.look(0, 2));
    }

    private static void promise15_noneSuch(Check check) {
        check.words("Promise 15", "NONE if there is none such.");
        HiringHall hall = new HiringHall();
        check.none("nobody is there", hall.look(0, 0));
        for (int i = 0; i < 16; i++) {
            hall.worker(1);
        }
        check.due("the sixteenth", hall.look(15, 0), 1);
        int[][] refused = {{16, 0}, {-1, 0}, {0, -1}, {0, 4}, {LEAST, 0}, {MOST, 0}, {0, LEAST}, {0, MOST}};
        for (int[] r : refused) {
            check.none("look" + Arrays.toString(r), hall.look(r[0], r[1]));
        }
    }
}
