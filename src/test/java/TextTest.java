/** Promises 2, 3 and 4: the tape, texts and their faults. */
public final class TextTest {
    public static void main(String[] args) {
        Check check = new Check();
        tape(check);
        votes(check);
        soundTexts(check);
        misplaced(check);
        tooHigh(check);
        cutByLength(check);
        twice(check);
        latestFault(check);
        check.end();
    }

    private static void tape(Check check) {
        HiringHall hall = new HiringHall();
        for (int i = 1; i <= 40; i++) {
            check.due("feed " + i, hall.feed(0x20202020, 0x20202020, 0x20202020, 0x20202020, 0x0a202020), 20 * i);
        }
        check.due("feed 41", hall.feed(1, 2, 3, 4, 5), -1);
        check.due("vote(801, 0)", hall.vote(801, 0), -2);
        check.due("vote(800, 0)", hall.vote(800, 0), 0);
        check.due("feed behind a vote", hall.feed(0x73686f72, 0x7420373b, 0, 0, 0), 20);
        check.due("vote(8, 0)", hall.vote(8, 0), 1);
        check.due("law(0, 0, 0)", hall.law(0, 0, 0), 7);
        check.due("the tape is empty", hall.vote(1, 0), -2);
        hall.feed(0x80ffffff, 0xff000000, -1, Integer.MIN_VALUE, Integer.MAX_VALUE);
        check.due("bytes above 127", hall.vote(20, 0), -1);
        check.due("bytes above 127, the place", hall.fault(1), 0);
    }

    private static void votes(Check check) {
        HiringHall hall = new HiringHall();
        Check.feed(hall, "short 4;short 4;");
        check.due("vote(-1, 0)", hall.vote(-1, 0), -2);
        check.due("vote(21, 0)", hall.vote(21, 0), -2);
        check.due("vote(MIN, 0)", hall.vote(Integer.MIN_VALUE, 0), -2);
        check.due("vote(MAX, 0)", hall.vote(Integer.MAX_VALUE, 0), -2);
        check.due("vote(8, -1)", hall.vote(8, -1), -2);
        check.due("vote(8, 100)", hall.vote(8, 100), -2);
        check.due("vote(8, 99), the tape stayed", hall.vote(8, 99), 0);
        check.due("the rest of the tape is gone", hall.vote(8, 0), -2);
        check.due("law(0, 98, 0)", hall.law(0, 98, 0), 0);
        check.due("law(0, 99, 0)", hall.law(0, 99, 0), 4);
        check.due("a faulty vote", Check.vote(hall, "short", 0), -1);
        check.due("the tape is empty behind it", hall.vote(1, 0), -2);
        check.due("a faulty text is none", hall.count(3), 1);
        for (int text = 1; text < 10; text++) {
            check.due("vote " + text, Check.vote(hall, "refuse 1;answer 2;", 0), text);
        }
        check.due("an eleventh text", Check.vote(hall, "name 1;", 0), -2);
        check.due("the tape stays", Check.feed(hall, ";"), 40);
        hall.undo(3);
        check.due("an eleventh text, one being undone", hall.vote(0, 0), -2);
        check.due("count(3)", hall.count(3), 10);
        check.due("count(6)", hall.count(6), 19);
    }

    private static void soundTexts(Check check) {
        check.sound("", 0);
        check.sound(" \n \n", 0);
        check.sound("short 0;", 1);
        check.sound("short999;", 1);
        check.sound("\nshort\n1\n;\nrefuse 2 ; ", 2);
        check.sound("short 000000000000000000000999;", 1);
        check.sound("permit 1;name 1;", 2);
        check.sound("permit 0;name 00;", 2);
        check.sound("fund 0 1;fund 1 1;fund 02 999;", 3);
        check.sound("short 1;refuse 2;answer 3;permit 1;name 0;fund 0 5;fund 1 6;fund 2 7;", 8);
    }

    private static void misplaced(Check check) {
        check.faulty("shor 1;", 1, 0);
        check.faulty("shorts 1;", 1, 0);
        check.faulty("Short 1;", 1, 0);
        check.faulty("shortz 1;", 1, 0);
        check.faulty("ashort 1;", 1, 0);
        check.faulty("short{1;", 1, 5);
        check.faulty("short`1;", 1, 5);
        check.faulty("short 1:", 1, 7);
        check.faulty("short 1/;", 1, 7);
        check.faulty(";", 1, 0);
        check.faulty("7;", 1, 0);
        check.faulty("1000;", 1, 0);
        check.faulty("short ;", 1, 6);
        check.faulty("short short;", 1, 6);
        check.faulty("short -1;", 1, 6);
        check.faulty("short\t1;", 1, 5);
        check.faulty("short 1\r;", 1, 7);
        check.faulty("short 1;;", 1, 8);
        check.faulty("short 1 1;", 1, 8);
        check.faulty("short 1 refuse 1;", 1, 8);
        check.faulty("short 1; bogus 1000;", 1, 9);
        check.faulty("short", 1, 5);
        check.faulty("short  \n", 1, 8);
        check.faulty("short 1", 1, 7);
        check.faulty("short 1  ", 1, 9);
        check.faulty("fund", 1, 4);
        check.faulty("fund 1", 1, 6);
        check.faulty("fund 1;", 1, 6);
        check.faulty("fund 1 2", 1, 8);
        check.faulty("fund 1 fund", 1, 7);
        check.faulty("fund;", 1, 4);
        check.faulty("\u0000", 1, 0);
        check.faulty("short 1;\u00e9", 1, 8);
    }

    private static void tooHigh(Check check) {
        check.faulty("short 1000;", 2, 6);
        check.faulty("short 1000", 2, 6);
        check.faulty("short 9990;", 2, 6);
        check.faulty("short 4294967296;", 2, 6);
        check.faulty("short 42949672960000000000000000;", 2, 6);
        check.faulty("fund 3 1;", 2, 5);
        check.faulty("fund 3", 2, 5);
        check.faulty("fund 1000 1;", 2, 5);
        check.faulty("fund 2 1000;", 2, 7);
        check.faulty("permit 2;", 2, 7);
        check.faulty("name 2;", 2, 5);
        check.faulty("name 1000;", 2, 5);
        check.faulty("fund 12;", 2, 5);
    }

    private static void twice(Check check) {
        check.faulty("short 1;short 1;", 3, 8);
        check.faulty("short 1; short 1", 3, 9);
        check.faulty("short 1; short 1?", 3, 9);
        check.faulty("short 1; short 1000;", 2, 15);
        check.faulty("short 1; short ;", 1, 15);
        check.faulty("short 1; short", 1, 14);
        check.faulty("name 1; name 2;", 2, 13);
        check.faulty("fund 1 1; fund 1 2;", 3, 10);
        check.faulty("fund 1 1; fund 1 2", 3, 10);
        check.faulty("fund 1 1; fund 1;", 1, 16);
        check.faulty("fund 1 1; fund 1 1000;", 2, 17);
        check.faulty("fund 1 1; fund 01 2;", 3, 10);
        check.faulty("short 1; short 2; refuse 1000;", 3, 9);
    }

    private static void cutByLength(Check check) {
        String whole = "short 12 ;  ";
        int[] votes = {0, -1, -1, -1, -1, -1, -1, -1, -1, -1, 0, 0, 0};
        int[] places = {-1, 0, 0, 0, 0, 5, 6, 7, 8, 9, -1, -1, -1};
        for (int n = 0; n <= whole.length(); n++) {
            HiringHall hall = new HiringHall();
            Check.feed(hall, whole);
            check.due("the first " + n + " bytes", hall.vote(n, 0), votes[n]);
            check.due("the first " + n + " bytes, the place", hall.fault(1), places[n]);
        }
    }

    private static void latestFault(Check check) {
        HiringHall hall = new HiringHall();
        Check.vote(hall, "short 1000;", 0);
        hall.vote(99, 0);
        check.due("fault(0) behind a vote of -2", hall.fault(0), 2);
        check.due("fault(1) behind a vote of -2", hall.fault(1), 6);
        check.due("fault(2)", hall.fault(2), -1);
        check.due("fault(-1)", hall.fault(-1), -1);
        Check.vote(hall, "short 1;", 0);
        check.due("fault(0) behind a sound vote", hall.fault(0), 0);
        check.due("fault(1) behind a sound vote", hall.fault(1), -1);
    }
}
