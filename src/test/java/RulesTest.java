/** Promises 5 and 6: undo and law. */
public final class RulesTest {
    public static void main(String[] args) {
        Check check = new Check();
        everyKey(check);
        latestFrom(check);
        knownAndUndone(check);
        wrongInputs(check);
        check.end();
    }

    private static void everyKey(Check check) {
        HiringHall hall = new HiringHall();
        Check.vote(hall, "fund 2 17;fund 1 16;fund 0 15;name 1;permit 1;answer 12;refuse 11;short 10;", 3);
        int[] said = {10, 11, 12, 1, 1, 15, 16, 17};
        for (int what = 0; what < 8; what++) {
            check.due("law(" + what + ", 2, 0)", hall.law(what, 2, 0), 0);
            check.due("law(" + what + ", 3, 0)", hall.law(what, 3, 0), said[what]);
            check.due("law(" + what + ", 99, 0)", hall.law(what, 99, 0), said[what]);
        }
    }

    private static void latestFrom(Check check) {
        HiringHall hall = new HiringHall();
        Check.vote(hall, "short 1;refuse 1;", 10);
        Check.vote(hall, "short 2;", 5);
        check.due("ahead of both", hall.law(0, 4, 0), 0);
        check.due("the earlier one alone", hall.law(0, 7, 0), 2);
        check.due("the later FROM wins over the later vote", hall.law(0, 10, 0), 1);
        Check.vote(hall, "short 0;", 10);
        check.due("of like FROM the later vote, a 0 too", hall.law(0, 10, 0), 0);
        check.due("a KEY that only one text has", hall.law(1, 10, 0), 1);
        hall.undo(2);
        check.due("undone, the one ahead of it counts", hall.law(0, 10, 0), 1);
    }

    private static void knownAndUndone(Check check) {
        HiringHall hall = new HiringHall();
        Check.mornings(hall, 2);
        Check.vote(hall, "answer 5;", 0);
        Check.mornings(hall, 2);
        check.yes("undo(0) on day 4", hall.undo(0));
        check.no("undo(0) again", hall.undo(0));
        Check.mornings(hall, 1);
        check.no("undo(0) on a later day", hall.undo(0));
        int[] said = {0, 0, 5, 5, 0, 0};
        for (int known = 0; known < 6; known++) {
            check.due("law(2, 0, " + known + ")", hall.law(2, 0, known), said[known]);
            check.due("law(2, 99, " + known + ")", hall.law(2, 99, known), said[known]);
        }
        check.due("count(3), undone ones too", hall.count(3), 1);
        check.due("count(6), undone ones too", hall.count(6), 1);
    }

    private static void wrongInputs(Check check) {
        HiringHall hall = new HiringHall();
        check.no("undo(0) without a text", hall.undo(0));
        Check.vote(hall, "short 1;", 0);
        check.no("undo(-1)", hall.undo(-1));
        check.no("undo(1)", hall.undo(1));
        check.no("undo(MAX)", hall.undo(Integer.MAX_VALUE));
        check.due("law(-1, 0, 0)", hall.law(-1, 0, 0), -1);
        check.due("law(8, 0, 0)", hall.law(8, 0, 0), -1);
        check.due("law(0, -1, 0)", hall.law(0, -1, 0), -1);
        check.due("law(0, 100, 0)", hall.law(0, 100, 0), -1);
        check.due("law(0, 0, -1)", hall.law(0, 0, -1), -1);
        check.due("law(0, 0, 1)", hall.law(0, 0, 1), -1);
        hall.morning();
        check.due("law(0, 0, 1) on day 1", hall.law(0, 0, 1), 1);
        check.due("law(0, 0, 2) on day 1", hall.law(0, 0, 2), -1);
    }
}
