import java.util.Arrays;

/** The boundaries that promises 16 to 20 name: HOURS, BANK, ANEW and the counts. */
final class BankPromiseEdges {
    private static final int LEAST = Integer.MIN_VALUE;
    private static final int MOST = Integer.MAX_VALUE;

    static void run(Check check) {
        promise16_hours(check);
        promise16_noSuch(check);
        promise16_150WereTold(check);
        promise17_asKnown(check);
        promise17_noSuch(check);
        promise18_inHowMany(check);
        promise18_noSuchDays(check);
        promise19_kthDifference(check);
        promise19_staysTillTheNextAnew(check);
        promise19_noneSuch(check);
        promise20_counts(check);
        promise20_anotherWhat(check);
    }

    private static void promise16_hours(Check check) {
        check.words("Promise 16", "HOURS: true;");
        HiringHall hall = new HiringHall();
        hall.worker(0);
        check.yes("the least of all", hall.hours(0, 0, 0));
        check.yes("the most hours", hall.hours(0, 0, 24));
        Check.mornings(hall, 99);
        hall.worker(2);
        check.yes("the last DAY, on it", hall.hours(1, 99, 24));
        check.yes("the first DAY, on the last", hall.hours(0, 0, 1));
        check.yes("a DAY ahead of the signing", hall.hours(1, 0, 1));
    }

    private static void promise16_noSuch(Check check) {
        check.words("Promise 16", "false: no such worker, DAY, hours");
        HiringHall hall = Check.onDay(1);
        check.no("nobody is there", hall.hours(0, 0, 1));
        hall.worker(0);
        Check.vote(hall, "fund 0 1;", 0);
        hall.hours(0, 1, 3);
        String before = Check.state(hall);
        int[][] refused = {{-1, 1, 1}, {1, 1, 1}, {0, -1, 1}, {0, 2, 1}, {0, 1, -1}, {0, 1, 25}, {LEAST, 1, 1},
            {0, LEAST, 1}, {0, 1, LEAST}, {MOST, 1, 1}, {0, MOST, 1}, {0, 1, MOST}};
        for (int[] r : refused) {
            check.no("hours" + Arrays.toString(r), hall.hours(r[0], r[1], r[2]));
        }
        check.unchanged("behind them", before, hall);
        check.due("bank", hall.bank(0, 0, 1), 3);
    }

    private static void promise16_150WereTold(Check check) {
        check.words("Promise 16", "or 150 were told.");
        HiringHall hall = Check.onDay(1);
        hall.worker(0);
        Check.vote(hall, "fund 0 1;", 0);
        for (int i = 0; i < 149; i++) {
            check.yes("hours " + i, hall.hours(0, 1, 1));
        }
        check.no("a refused one is none of the 150", hall.hours(0, 1, 25));
        check.yes("the 150th", hall.hours(0, 0, 7));
        String before = Check.state(hall);
        check.no("one more", hall.hours(0, 0, 24));
        check.no("one more of another DAY", hall.hours(0, 1, 24));
        check.unchanged("behind them", before, hall);
        check.due("the 150th counts", hall.bank(0, 0, 1), 8);
    }

    private static void promise17_asKnown(Check check) {
        check.words("Promise 17", "BANK, as KNOWN;");
        HiringHall hall = new HiringHall();
        for (int i = 0; i < 16; i++) {
            hall.worker(i % 3);
            hall.hours(i, 0, i);
        }
        Check.mornings(hall, 99);
        Check.vote(hall, "fund 2 3;", 0);
        check.due("the last worker and FUND, as KNOWN on the last DAY", hall.bank(15, 2, 99), 45);
        check.due("the first worker", hall.bank(0, 2, 99), 0);
        check.due("another FUND", hall.bank(15, 0, 99), 0);
        check.due("as KNOWN on the DAY ahead of the vote", hall.bank(15, 2, 98), 0);
    }

    private static void promise17_noSuch(Check check) {
        check.words("Promise 17", "NONE: no such worker, FUND, DAY (at most TODAY).");
        HiringHall hall = new HiringHall();
        check.none("nobody is there", hall.bank(0, 0, 0));
        hall.worker(0);
        check.none("as KNOWN tomorrow", hall.bank(0, 0, 1));
        hall.morning();
        check.due("as KNOWN TODAY", hall.bank(0, 2, 1), 0);
        int[][] refused = {{-1, 0, 0}, {1, 0, 0}, {16, 0, 0}, {0, -1, 0}, {0, 3, 0}, {0, 0, -1}, {0, 0, 2},
            {LEAST, 0, 0}, {0, LEAST, 0}, {0, 0, LEAST}, {MOST, 0, 0}, {0, MOST, 0}, {0, 0, MOST}};
        for (int[] r : refused) {
            check.none("bank" + Arrays.toString(r), hall.bank(r[0], r[1], r[2]));
        }
    }

    /** DAY 2: worker 1 was SENT by CALL 0; by name, voted TODAY, worker 2 is; CALL 2 sends both either way. */
    private static HiringHall named() {
        HiringHall hall = new HiringHall();
        hall.worker(0);
        Check.ready(hall, 0, 0, 0, 1);
        Check.ready(hall, 0, 0, 0, 1);
        hall.call(0, 1, 1, 2, 9);
        hall.call(1, 1, 1, 2, 0);
        hall.morning();
        hall.call(0, 2, 2, -1, 0);
        hall.morning();
        Check.vote(hall, "name 1;", 0);
        return hall;
    }

    private static void promise18_inHowMany(Check check) {
        check.words("Promise 18", "ANEW: in how many it DIFFERS;");
        HiringHall hall = named();
        check.due("to DAY 0", hall.anew(0, 2), 0);
        check.due("to DAY 1", hall.anew(1, 2), 2);
        check.due("to TODAY", hall.anew(2, 2), 2);
        check.due("as KNOWN on DAY 0", hall.anew(2, 0), 0);
        check.due("as KNOWN on DAY 1", hall.anew(2, 1), 0);
        String before = Check.state(hall);
        check.due("the same again", hall.anew(2, 1), 0);
        check.unchanged("it stands beside", before, hall);
    }

    private static void promise18_noSuchDays(Check check) {
        check.words("Promise 18", "NONE: no such DAYS (both at most TODAY).");
        HiringHall hall = new HiringHall();
        check.due("anew(0, 0) on DAY 0", hall.anew(0, 0), 0);
        check.none("anew(1, 0) on DAY 0", hall.anew(1, 0));
        check.none("anew(0, 1) on DAY 0", hall.anew(0, 1));
        HiringHall told = named();
        told.anew(2, 2);
        String before = Check.state(told);
        int[][] refused = {{-1, 0}, {3, 0}, {0, -1}, {0, 3}, {3, 3}, {99, 99}, {LEAST, 0}, {MOST, 0}, {0, LEAST}, {0, MOST}};
        for (int[] r : refused) {
            check.none("anew" + Arrays.toString(r), told.anew(r[0], r[1]));
        }
        check.unchanged("behind them, the differences too", before, told);
        check.due("the second difference", told.differs(1, 1), 2);
    }

    private static void promise19_kthDifference(Check check) {
        check.words("Promise 19", "Of the k-th difference of the latest anew() that was not NONE (by CALLS, then workers), "
                + "what 0: the CALL, 1: the worker, 2: 1 if SENT there, 0 if SENT as it was.");
        HiringHall hall = new HiringHall();
        for (int i = 0; i < 3; i++) {
            Check.ready(hall, 0, 0, 0);
        }
        hall.call(0, 1, 1, 2, 9);
        hall.call(0, 1, 1, -1, 0);
        hall.call(0, 1, 1, 2, 5);
        hall.morning();
        Check.vote(hall, "name 1;", 0);
        check.due("anew", hall.anew(1, 1), 4);
        int[][] due = {{0, 1, 1}, {0, 2, 0}, {2, 1, 0}, {2, 2, 1}};
        for (int k = 0; k < 4; k++) {
            for (int what = 0; what < 3; what++) {
                check.due("differs(" + k + ", " + what + ")", hall.differs(k, what), due[k][what]);
            }
        }
        check.none("differs(4, 0)", hall.differs(4, 0));
    }

    private static void promise19_staysTillTheNextAnew(Check check) {
        check.words("Promise 19", "Of the k-th difference of the latest anew() that was not NONE");
        HiringHall hall = named();
        hall.anew(2, 2);
        hall.undo(0);
        hall.worker(0);
        hall.call(0, 1, 9, -1, 0);
        hall.morning();
        hall.anew(4, 0);
        hall.anew(0, 4);
        int[][] due = {{0, 1, 0}, {0, 2, 1}, {-1, -1, -1}};
        for (int k = 0; k < 3; k++) {
            for (int what = 0; what < 3; what++) {
                check.due("differs(" + k + ", " + what + ")", hall.differs(k, what), due[k][what]);
            }
        }
        check.due("the next anew", hall.anew(0, 0), 0);
        check.none("it has none", hall.differs(0, 0));
    }

    private static void promise19_noneSuch(Check check) {
        check.words("Promise 19", "NONE if there is none such.");
        HiringHall hall = new HiringHall();
        check.none("no anew yet", hall.differs(0, 0));
        HiringHall told = named();
        check.none("none yet, though there would be some", told.differs(0, 0));
        told.anew(2, 2);
        check.due("the last", told.differs(1, 2), 1);
        int[][] refused = {{2, 0}, {2, 2}, {-1, 0}, {-1, 2}, {0, -1}, {0, 3}, {1, 3}, {LEAST, 0}, {MOST, 0}, {0, LEAST},
            {0, MOST}};
        for (int[] r : refused) {
            check.none("differs" + Arrays.toString(r), told.differs(r[0], r[1]));
        }
    }

    private static void promise20_counts(Check check) {
        check.words("Promise 20", "0 TODAY, 1 workers, 2 CALLS, 3 TEXTS, 4 all SENT, 5 hours told, 6 LINES of all TEXTS.");
        HiringHall hall = named();
        counts(check, hall, 2, 3, 3, 1, 3, 0, 1);
        Check.vote(hall, "short 1;refuse 1;answer 1;permit 1;name 1;fund 0 1;fund 1 1;fund 2 1;", 99);
        Check.vote(hall, "short 1;refuse", 0);
        hall.vote(0, 0);
        hall.undo(0);
        hall.hours(0, 0, 24);
        hall.hours(0, 0, 24);
        hall.hours(0, 3, 24);
        hall.anew(2, 0);
        counts(check, hall, 2, 3, 3, 3, 3, 2, 9);
        hall.worker(0);
        hall.call(0, 1, 1, -1, 0);
        hall.morning();
        counts(check, hall, 3, 4, 4, 3, 3, 2, 9);
        Check.mornings(hall, 100);
        counts(check, hall, 99, 4, 4, 3, 3, 2, 9);
    }

    private static void counts(Check check, HiringHall hall, int... due) {
        for (int what = 0; what < 7; what++) {
            check.due("count(" + what + ") on DAY " + due[0], hall.count(what), due[what]);
        }
    }

    private static void promise20_anotherWhat(Check check) {
        check.words("Promise 20", "NONE for another what.");
        HiringHall hall = new HiringHall();
        int[] others = {-1, 7, LEAST, MOST};
        for (int what : others) {
            check.none("count(" + what + ")", hall.count(what));
        }
    }
}
