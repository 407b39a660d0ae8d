/** Promises 16 and 17: hours and bank. */
public final class BankTest {
    public static void main(String[] args) {
        Check check = new Check();
        telling(check);
        latestTold(check);
        fundsByDay(check);
        wrongInputs(check);
        check.end();
    }

    private static void telling(Check check) {
        HiringHall hall = new HiringHall();
        check.no("hours without a worker", hall.hours(0, 0, 1));
        hall.morning();
        hall.worker(0);
        check.no("hours(-1, 0, 1)", hall.hours(-1, 0, 1));
        check.no("hours(1, 0, 1)", hall.hours(1, 0, 1));
        check.no("hours(0, -1, 1)", hall.hours(0, -1, 1));
        check.no("hours(0, 2, 1)", hall.hours(0, 2, 1));
        check.no("hours(0, 0, -1)", hall.hours(0, 0, -1));
        check.no("hours(0, 0, 25)", hall.hours(0, 0, 25));
        check.yes("hours(0, 1, 0)", hall.hours(0, 1, 0));
        check.yes("hours(0, 0, 24), ahead of signing", hall.hours(0, 0, 24));
        for (int i = 2; i < 150; i++) {
            check.yes("hours " + i, hall.hours(0, 1, i % 25));
        }
        check.no("hours told for the 151st time", hall.hours(0, 1, 1));
        check.due("count(5)", hall.count(5), 150);
        Check.vote(hall, "fund 0 10;", 0);
        check.due("the latest told", hall.bank(0, 0, 1), 10 * (24 + 149 % 25));
    }

    private static void latestTold(Check check) {
        HiringHall hall = new HiringHall();
        Check.vote(hall, "fund 2 3;", 0);
        hall.worker(0);
        hall.worker(1);
        hall.hours(0, 0, 8);
        hall.hours(0, 0, 7);
        hall.hours(1, 0, 1);
        check.due("bank(0, 2, 0)", hall.bank(0, 2, 0), 21);
        Check.mornings(hall, 2);
        hall.hours(0, 1, 10);
        hall.hours(0, 0, 0);
        check.due("as known on day 0", hall.bank(0, 2, 0), 21);
        check.due("as known on day 1", hall.bank(0, 2, 1), 21);
        check.due("as known on day 2", hall.bank(0, 2, 2), 30);
        check.due("another worker", hall.bank(1, 2, 2), 3);
        check.due("another fund", hall.bank(0, 1, 2), 0);
    }

    private static void fundsByDay(Check check) {
        HiringHall hall = new HiringHall();
        Check.vote(hall, "fund 0 1;fund 1 100;", 0);
        hall.worker(0);
        hall.hours(0, 0, 2);
        hall.morning();
        hall.hours(0, 1, 3);
        hall.morning();
        Check.vote(hall, "fund 0 10;", 1);
        hall.hours(0, 2, 4);
        check.due("as known on day 0", hall.bank(0, 0, 0), 2);
        check.due("as known on day 1", hall.bank(0, 0, 1), 5);
        check.due("as known on day 2", hall.bank(0, 0, 2), 72);
        check.due("fund 1", hall.bank(0, 1, 2), 900);
        hall.morning();
        hall.undo(0);
        check.due("undone", hall.bank(0, 0, 3), 70);
        check.due("not undone as known on day 2", hall.bank(0, 0, 2), 72);
    }

    private static void wrongInputs(Check check) {
        HiringHall hall = new HiringHall();
        hall.worker(0);
        hall.morning();
        check.due("bank(0, 0, 1)", hall.bank(0, 0, 1), 0);
        int[][] wrong = {{-1, 0, 0}, {1, 0, 0}, {0, -1, 0}, {0, 3, 0}, {0, 0, -1}, {0, 0, 2}};
        for (int[] w : wrong) {
            check.due("bank" + java.util.Arrays.toString(w), hall.bank(w[0], w[1], w[2]), -1);
        }
    }
}
