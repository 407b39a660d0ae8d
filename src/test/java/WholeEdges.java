import java.util.Random;

/** The document's first section: what the class is, in one run, and the 512 calls of an object. */
final class WholeEdges {
    private static final int CALLS = 512;
    private static final int LAST_DAY = 99;

    static void run(Check check) {
        whatItIs_allInOneRun(check);
        whatItIs_512Calls(check);
    }

    private static void whatItIs_allInOneRun(Check check) {
        check.words("What it is", "A hiring hall: workers on the lists of three books, papers, calls by mornings stepped "
                + "minute by minute, rules as texts in force from days, voted and undone; who goes, who was passed over "
                + "and why; short jobs that keep one's place, refusals that cost it; hours banked toward funds, told "
                + "late; mornings worked anew beside, by rules as they became known.");
        HiringHall hall = new HiringHall();
        Check.vote(hall, "short 1; refuse 1; answer 5; fund 0 2;", 0);
        for (int book : new int[] {0, 0, 1, 2}) {
            Check.ready(hall, book, 3, 0, 1);
        }
        hall.call(3, 1, 1, 3, 10);
        hall.refuse(0, 0);
        check.due("DAY 0", hall.morning(), 1);
        check.whys(hall, 0, 4, 10, 5, 15, 6, -1, 6, -1);
        check.list(hall, 0, 0);
        check.due("DAY 1", hall.morning(), 0);
        check.list(hall, 0, 1, 0);
        check.yes("told late", hall.hours(1, 0, 8));
        check.due("bank", hall.bank(1, 0, 2), 16);
        check.due("bank as it was", hall.bank(1, 0, 1), 0);
        Check.vote(hall, "name 1; permit 1;", 0);
        check.due("by what was known", hall.anew(2, 1), 0);
        check.due("by what became known", hall.anew(2, 2), 2);
        for (int i = 0; i < 6; i++) {
            int due = new int[] {0, 1, 0, 0, 3, 1}[i];
            check.due("differs(" + i / 3 + ", " + i % 3 + ")", hall.differs(i / 3, i % 3), due);
        }
        check.yes("undone", hall.undo(1));
        check.due("by what is known again", hall.anew(2, 2), 0);
    }

    /** An object that is filled up all its life long, asked by its last calls, against PlainHall. */
    private static void whatItIs_512Calls(Check check) {
        check.words("What it is",
                "An object is used for at most 512 calls after it has been made; what later calls answer is free.");
        HiringHall hall = new HiringHall();
        PlainHall plain = new PlainHall();
        int made = fill(check, hall, plain);
        for (int worker = 0; made < CALLS; worker = (worker + 5) % 16) {
            int bank = plain.bank(worker, 0, LAST_DAY);
            check.due("call " + made + ", bank of " + worker, hall.bank(worker, 0, LAST_DAY), bank);
            made++;
        }
        callOn(hall);
    }

    private static int fill(Check check, HiringHall hall, PlainHall plain) {
        int made = 0;
        for (int worker = 0; worker < 16; worker++, made++) {
            check.due("worker", hall.worker(worker % 3), plain.worker(worker % 3));
        }
        int[] fundOf5 = {0x66756e64, 0x20302035, 0x3b616e73, 0x77657220, 0x32303b20};
        check.due("feed", hall.feed(fundOf5[0], fundOf5[1], fundOf5[2], fundOf5[3], fundOf5[4]), plain.feed(fundOf5));
        check.due("vote", hall.vote(20, 3), plain.vote(20, 3));
        made += 2;
        for (int day = 0; day < LAST_DAY; day++, made += 4) {
            int worker = day % 16;
            check.yes("paper", hall.paper(worker, day % 2, LAST_DAY) && plain.paper(worker, day % 2, LAST_DAY));
            check.yes("here", hall.here(worker, day, 0, 600) && plain.here(worker, day, 0, 600));
            check.yes("hours", hall.hours(worker, day, day % 25) && plain.hours(worker, day, day % 25));
            if (day % 2 == 0) {
                check.due("call", hall.call(0, 2, 1, -1, day), plain.call(0, 2, 1, -1, day));
                made++;
            }
            check.due("DAY " + day, hall.morning(), plain.morning());
        }
        check.due("all SENT", hall.count(4), plain.count(4));
        check.due("anew", hall.anew(LAST_DAY, LAST_DAY), plain.anew(LAST_DAY, LAST_DAY));
        return made + 2;
    }

    /** Answers are free from here on; that no call throws or goes on for ever is not (LANGUAGE.md, rule 7). */
    private static void callOn(HiringHall hall) {
        Random random = new Random(512);
        for (int i = 0; i < 20_000; i++) {
            int a = random.nextInt(3) == 0 ? random.nextInt() : random.nextInt(17) - 1;
            int b = random.nextInt(3) == 0 ? random.nextInt() : random.nextInt(17) - 1;
            int c = random.nextInt(3) == 0 ? random.nextInt() : random.nextInt(101) - 1;
            switch (i % 19) {
                case 0 -> hall.feed(a, b, c, a, b);
                case 1 -> hall.vote(a, b);
                case 2 -> hall.fault(a);
                case 3 -> hall.undo(a);
                case 4 -> hall.law(a, b, c);
                case 5 -> hall.worker(a);
                case 6 -> hall.paper(a, b, c);
                case 7 -> hall.here(a, LAST_DAY, b, c);
                case 8 -> hall.call(a, b, 1, a, c);
                case 9 -> hall.refuse(a, b);
                case 10 -> hall.morning();
                case 11 -> hall.why(a, b, c & 1);
                case 12 -> hall.list(a, b);
                case 13 -> hall.look(a, b);
                case 14 -> hall.hours(a, b, c);
                case 15 -> hall.bank(a, b, c);
                case 16 -> hall.anew(b, c);
                case 17 -> hall.differs(a, b);
                default -> hall.count(a);
            }
        }
    }
}
