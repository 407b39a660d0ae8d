/** Promises 7 to 11 and 20: workers, papers, here, calls, refusals told, and the counts. */
public final class TellingTest {
    public static void main(String[] args) {
        Check check = new Check();
        workers(check);
        papers(check);
        heres(check);
        calls(check);
        refusals(check);
        counts(check);
        check.end();
    }

    private static void workers(Check check) {
        HiringHall hall = new HiringHall();
        check.due("worker(-1)", hall.worker(-1), -1);
        check.due("worker(3)", hall.worker(3), -1);
        for (int i = 0; i < 16; i++) {
            check.due("worker " + i, hall.worker(i % 3), i);
        }
        check.due("a seventeenth", hall.worker(0), -1);
        check.due("count(1)", hall.count(1), 16);
    }

    private static void papers(Check check) {
        HiringHall hall = new HiringHall();
        hall.worker(0);
        check.no("paper(1, 0, 0)", hall.paper(1, 0, 0));
        check.no("paper(-1, 0, 0)", hall.paper(-1, 0, 0));
        check.no("paper(0, -1, 0)", hall.paper(0, -1, 0));
        check.no("paper(0, 8, 0)", hall.paper(0, 8, 0));
        check.no("paper(0, 0, -1)", hall.paper(0, 0, -1));
        check.no("paper(0, 0, 100)", hall.paper(0, 0, 100));
        hall.morning();
        check.yes("paper(0, 0, 0) of a day that is over", hall.paper(0, 0, 0));
        check.yes("paper(0, 7, 99)", hall.paper(0, 7, 99));
        for (int i = 2; i < 100; i++) {
            check.yes("paper " + i, hall.paper(0, 3, 50));
        }
        check.no("a 101st paper", hall.paper(0, 3, 50));
    }

    private static void heres(Check check) {
        HiringHall hall = new HiringHall();
        hall.worker(0);
        hall.morning();
        check.no("here(1, 1, 0, 1)", hall.here(1, 1, 0, 1));
        check.no("here(-1, 1, 0, 1)", hall.here(-1, 1, 0, 1));
        check.no("a day that is over", hall.here(0, 0, 0, 1));
        check.no("day 100", hall.here(0, 100, 0, 1));
        check.no("day -1", hall.here(0, -1, 0, 1));
        check.no("from -1", hall.here(0, 1, -1, 1));
        check.no("to 601", hall.here(0, 1, 0, 601));
        check.no("from is to", hall.here(0, 1, 600, 600));
        check.no("from behind to", hall.here(0, 1, 5, 4));
        check.yes("here(0, 1, 0, 1)", hall.here(0, 1, 0, 1));
        check.yes("here(0, 99, 599, 600)", hall.here(0, 99, 599, 600));
        for (int i = 2; i < 200; i++) {
            check.yes("here " + i, hall.here(0, 1, 0, 600));
        }
        check.no("a 201st here", hall.here(0, 1, 0, 600));
    }

    private static void calls(Check check) {
        HiringHall hall = new HiringHall();
        hall.worker(2);
        int[][] wrong = {{-1, 1, 1, -1, 0}, {8, 1, 1, -1, 0}, {0, 0, 1, -1, 0}, {0, 31, 1, -1, 0}, {0, 1, 0, -1, 0},
            {0, 1, 10, -1, 0}, {0, 1, 1, -2, 0}, {0, 1, 1, 1, 0}, {0, 1, 1, -1, -1}, {0, 1, 1, -1, 600}};
        for (int[] w : wrong) {
            check.due("call" + java.util.Arrays.toString(w), hall.call(w[0], w[1], w[2], w[3], w[4]), -1);
        }
        check.due("the least", hall.call(0, 1, 1, -1, 0), 0);
        check.due("the most", hall.call(7, 30, 9, 0, 599), 1);
        for (int i = 2; i < 60; i++) {
            check.due("call " + i, hall.call(1, 1, 1, -1, 5), i);
        }
        check.due("a 61st call", hall.call(1, 1, 1, -1, 5), -1);
        check.due("count(2)", hall.count(2), 60);
    }

    private static void refusals(Check check) {
        HiringHall hall = new HiringHall();
        hall.worker(0);
        hall.worker(0);
        hall.call(0, 1, 1, -1, 0);
        check.no("refuse(1, 0)", hall.refuse(1, 0));
        check.no("refuse(-1, 0)", hall.refuse(-1, 0));
        check.no("refuse(0, 2)", hall.refuse(0, 2));
        check.no("refuse(0, -1)", hall.refuse(0, -1));
        check.yes("refuse(0, 0)", hall.refuse(0, 0));
        check.yes("refuse(0, 1)", hall.refuse(0, 1));
        check.no("refuse(0, 0) again", hall.refuse(0, 0));
        hall.call(0, 1, 1, -1, 0);
        check.yes("refuse(1, 0)", hall.refuse(1, 0));
        hall.morning();
        check.no("a call of a day that is over", hall.refuse(1, 1));
    }

    private static void counts(Check check) {
        HiringHall hall = new HiringHall();
        Check.vote(hall, "short 1;name 1;", 0);
        Check.ready(hall, 0, 0, 0);
        Check.ready(hall, 1, 0, 0, 1);
        hall.call(0, 1, 2, -1, 0);
        hall.hours(0, 0, 24);
        hall.hours(0, 0, 20);
        hall.hours(0, 0, 25);
        hall.morning();
        hall.call(0, 1, 1, -1, 0);
        hall.call(0, 1, 1, -1, 0);
        hall.morning();
        int[] due = {2, 2, 3, 1, 3, 2, 2};
        for (int what = 0; what < 7; what++) {
            check.due("count(" + what + ")", hall.count(what), due[what]);
        }
        check.due("count(-1)", hall.count(-1), -1);
        check.due("count(7)", hall.count(7), -1);
    }
}
