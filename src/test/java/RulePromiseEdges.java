/** The boundaries that promises 1 to 6 name: a new object, the TAPE, votes and RULES. */
final class RulePromiseEdges {
    private static final int BLANKS = 0x20202020;

    static void run(Check check) {
        promise1_newObject(check);
        promise2_twentyBytes(check);
        promise2_noneBeyond800(check);
        promise3_firstBytes(check);
        promise3_noneWithAFault(check);
        promise3_tapeStays(check);
        promise4_latestVote(check);
        promise4_anotherWhat(check);
        promise5_undoneToday(check);
        promise5_noSuchOneOrItIs(check);
        promise6_whatRulesSay(check);
        promise6_noSuch(check);
    }

    private static void promise1_newObject(Check check) {
        check.words("Promise 1", "DAY 0, nobody, no RULES, an empty TAPE.");
        HiringHall hall = new HiringHall();
        for (int what = 0; what < 7; what++) {
            check.due("count(" + what + ")", hall.count(what), 0);
        }
        for (int what = 0; what < 8; what++) {
            check.due("law(" + what + ", 0, 0)", hall.law(what, 0, 0), 0);
        }
        for (int i = 0; i < 3; i++) {
            check.none("list(" + i + ", 0)", hall.list(i, 0));
            check.none("differs(0, " + i + ")", hall.differs(0, i));
            check.none("look(0, " + i + ")", hall.look(0, i));
        }
        check.due("fault(0)", hall.fault(0), 0);
        check.none("fault(1)", hall.fault(1));
        check.none("why(0, 0, 0)", hall.why(0, 0, 0));
        check.none("bank(0, 0, 0)", hall.bank(0, 0, 0));
        check.due("anew(0, 0)", hall.anew(0, 0), 0);
        check.due("vote(1, 0)", hall.vote(1, 0), -2);
        check.due("feed", hall.feed(0, 0, 0, 0, 0), 20);
        HiringHall other = new HiringHall();
        check.due("another object has a TAPE of its own", other.vote(1, 0), -2);
        check.due("and may be worked at once", other.morning(), 0);
    }

    private static void promise2_twentyBytes(Check check) {
        check.words("Promise 2", "Twenty bytes come behind the TAPE, four of each number, the highest first: how many it has;");
        HiringHall hall = new HiringHall();
        check.due("the first feed", hall.feed(0x73686f72, 0x74203132, 0x333b6675, 0x6e642031, 0x20343536), 20);
        check.due("the second feed", hall.feed(0x3b202020, BLANKS, BLANKS, BLANKS, 0x20202061), 40);
        check.due("vote of 39 bytes", hall.vote(39, 0), 0);
        check.due("short", hall.law(0, 0, 0), 123);
        check.due("fund 1", hall.law(6, 0, 0), 456);
        for (int place = 0; place < 20; place++) {
            int[] words = {BLANKS, BLANKS, BLANKS, BLANKS, BLANKS};
            words[place / 4] |= 0xdf << 24 - 8 * (place % 4);
            hall.feed(words[0], words[1], words[2], words[3], words[4]);
            check.none("a byte 255 at " + place, hall.vote(20, 0));
            check.due("its place", hall.fault(1), place);
        }
    }

    private static void promise2_noneBeyond800(Check check) {
        check.words("Promise 2", "NONE, and none come, if it would have more than 800.");
        HiringHall hall = new HiringHall();
        for (int i = 1; i <= 40; i++) {
            check.due("feed " + i, hall.feed(BLANKS, BLANKS, BLANKS, BLANKS, BLANKS), 20 * i);
        }
        check.none("feed 41", hall.feed(-1, -1, -1, -1, -1));
        check.none("feed 42", hall.feed(BLANKS, BLANKS, BLANKS, BLANKS, BLANKS));
        check.due("there is no 801st byte", hall.vote(801, 0), -2);
        check.due("all 800 are as they were", hall.vote(800, 0), 0);
        check.due("a feed on the TAPE made empty", hall.feed(-1, -1, -1, -1, -1), 20);
        check.none("its bytes stand first", hall.vote(1, 0));
        check.due("at place 0", hall.fault(1), 0);
    }

    private static void promise3_firstBytes(Check check) {
        check.words("Promise 3", "The TAPE's first n bytes (it is empty then) are a TEXT voted TODAY, "
                + "in force from a DAY on: its number;");
        HiringHall hall = new HiringHall();
        check.due("no bytes of an empty TAPE", hall.vote(0, 0), 0);
        Check.feed(hall, "short 1;bogus");
        check.due("no bytes of a TAPE that has some", hall.vote(0, 0), 1);
        check.due("it is empty then", hall.vote(1, 0), -2);
        Check.feed(hall, "short 1;bogus");
        check.due("the first 8", hall.vote(8, 99), 2);
        check.due("the rest is gone", hall.vote(1, 0), -2);
        check.due("ahead of FROM", hall.law(0, 98, 0), 0);
        check.due("on FROM", hall.law(0, 99, 0), 1);
        Check.feed(hall, "refuse 12; answer 3;");
        check.due("all 20", hall.vote(20, 0), 3);
        check.due("LINES", hall.count(6), 3);
        check.due("TEXTS", hall.count(3), 4);
    }

    private static void promise3_noneWithAFault(Check check) {
        check.words("Promise 3", "NONE with a FAULT;");
        HiringHall hall = new HiringHall();
        check.none("a FAULT behind a sound LINE", Check.vote(hall, "short 5;refuse;", 0));
        check.due("TEXTS", hall.count(3), 0);
        check.due("LINES", hall.count(6), 0);
        check.due("the sound LINE says nothing", hall.law(0, 0, 0), 0);
        check.no("there is no TEXT to undo", hall.undo(0));
        check.due("the TAPE is empty", hall.vote(1, 0), -2);
        check.due("the next has its number", Check.vote(hall, "refuse 2;", 0), 0);
        check.due("and nothing of the faulty one", hall.law(0, 0, 0), 0);
    }

    private static void promise3_tapeStays(Check check) {
        check.words("Promise 3", "-2, and the TAPE stays: no such n, DAY, or there are 10.");
        HiringHall hall = new HiringHall();
        Check.feed(hall, "short 1;            ");
        int[][] refused = {{-1, 0}, {21, 0}, {Integer.MIN_VALUE, 0}, {Integer.MAX_VALUE, 0}, {8, -1}, {8, 100},
            {8, Integer.MIN_VALUE}, {8, Integer.MAX_VALUE}};
        String before = Check.state(hall);
        for (int[] r : refused) {
            check.due("vote(" + r[0] + ", " + r[1] + ")", hall.vote(r[0], r[1]), -2);
        }
        check.unchanged("behind them", before, hall);
        check.due("all 20 are there still", hall.vote(20, 99), 0);
        check.due("as they were", hall.law(0, 99, 0), 1);
        for (int text = 1; text < 10; text++) {
            check.due("vote " + text, hall.vote(0, 0), text);
        }
        Check.feed(hall, "short 2;");
        check.due("there are 10", hall.vote(8, 0), -2);
        check.due("even of a faulty TEXT", hall.vote(3, 0), -2);
        check.due("even of an empty one", hall.vote(0, 0), -2);
        check.due("the TAPE stays", hall.feed(0, 0, 0, 0, 0), 40);
        check.due("TEXTS", hall.count(3), 10);
    }

    private static void promise4_latestVote(Check check) {
        check.words("Promise 4", "Of the latest vote() that was not -2, what 0: its FAULT (0), 1: its place (NONE).");
        HiringHall hall = new HiringHall();
        fault(check, hall, 0, -1);
        hall.vote(1, 0);
        fault(check, hall, 0, -1);
        Check.vote(hall, "name 2;", 0);
        fault(check, hall, 2, 5);
        hall.vote(1, 0);
        hall.vote(0, 100);
        fault(check, hall, 2, 5);
        Check.vote(hall, "short 1;short 1;", 0);
        fault(check, hall, 3, 8);
        hall.morning();
        fault(check, hall, 3, 8);
        Check.vote(hall, "?", 0);
        fault(check, hall, 1, 0);
        Check.vote(hall, "short 1;", 0);
        fault(check, hall, 0, -1);
    }

    private static void fault(Check check, HiringHall hall, int fault, int place) {
        check.due("fault(0)", hall.fault(0), fault);
        check.due("fault(1)", hall.fault(1), place);
    }

    private static void promise4_anotherWhat(Check check) {
        check.words("Promise 4", "NONE for another what.");
        HiringHall hall = new HiringHall();
        Check.vote(hall, "name 2;", 0);
        int[] others = {-1, 2, Integer.MIN_VALUE, Integer.MAX_VALUE};
        for (int what : others) {
            check.none("fault(" + what + ")", hall.fault(what));
        }
    }

    private static void promise5_undoneToday(Check check) {
        check.words("Promise 5", "A TEXT is undone TODAY: true;");
        HiringHall hall = new HiringHall();
        Check.vote(hall, "short 1;", 0);
        Check.vote(hall, "refuse 2;", 50);
        Check.mornings(hall, 99);
        check.yes("the first, on DAY 99", hall.undo(0));
        check.due("as KNOWN on DAY 98", hall.law(0, 99, 98), 1);
        check.due("as KNOWN on DAY 99", hall.law(0, 99, 99), 0);
        check.due("the other one stays", hall.law(1, 99, 99), 2);
        check.due("it is a TEXT still", hall.count(3), 2);
    }

    private static void promise5_noSuchOneOrItIs(Check check) {
        check.words("Promise 5", "false: no such one, or it is.");
        HiringHall hall = new HiringHall();
        check.no("no TEXT yet", hall.undo(0));
        Check.vote(hall, "short 1;", 0);
        Check.vote(hall, "short 2;", 0);
        check.yes("undo(1)", hall.undo(1));
        hall.morning();
        String before = Check.state(hall);
        int[] refused = {-1, 1, 2, 10, Integer.MIN_VALUE, Integer.MAX_VALUE};
        for (int text : refused) {
            check.no("undo(" + text + ")", hall.undo(text));
        }
        check.unchanged("behind them", before, hall);
        check.due("it is undone on DAY 0 still", hall.law(0, 0, 0), 1);
    }

    private static void promise6_whatRulesSay(Check check) {
        check.words("Promise 6", "What RULES say on a DAY, as KNOWN, what 0: short, 1: refuse, 2: answer, 3: permit, 4: name, "
                + "5 .. 7: funds.");
        HiringHall hall = new HiringHall();
        Check.vote(hall, "fund 2 17;fund 1 16;fund 0 15;name 1;permit 1;answer 12;refuse 11;short 10;", 0);
        int[] due = {10, 11, 12, 1, 1, 15, 16, 17};
        for (int what = 0; what < 8; what++) {
            check.due("law(" + what + ", 0, 0)", hall.law(what, 0, 0), due[what]);
            check.due("law(" + what + ", 99, 0)", hall.law(what, 99, 0), due[what]);
        }
    }

    private static void promise6_noSuch(Check check) {
        check.words("Promise 6", "NONE: no such what, DAYS (KNOWN at most TODAY).");
        HiringHall hall = Check.onDay(3);
        Check.vote(hall, "short 1;fund 2 1;", 0);
        check.due("law(0, 0, 3)", hall.law(0, 0, 3), 1);
        check.due("law(7, 99, 3)", hall.law(7, 99, 3), 1);
        int[][] refused = {{-1, 0, 0}, {8, 0, 0}, {0, -1, 0}, {0, 100, 0}, {0, 0, -1}, {0, 0, 4},
            {Integer.MAX_VALUE, 0, 0}, {0, Integer.MAX_VALUE, 0}, {0, 0, Integer.MAX_VALUE},
            {Integer.MIN_VALUE, 0, 0}, {0, Integer.MIN_VALUE, 0}, {0, 0, Integer.MIN_VALUE}};
        for (int[] r : refused) {
            check.none("law(" + r[0] + ", " + r[1] + ", " + r[2] + ")", hall.law(r[0], r[1], r[2]));
        }
    }
}
