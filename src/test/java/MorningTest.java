/** Promises 12 to 15: morning, why, list and look. */
public final class MorningTest {
    public static void main(String[] args) {
        Check check = new Check();
        orderOfCalls(check);
        lastDay(check);
        comingBack(check);
        shortOfTheDayOfReturn(check);
        comingBackAheadOfSigning(check);
        booksAndPermit(check);
        named(check);
        papers(check);
        presence(check);
        refusing(check);
        refusalsAboveTheRule(check);
        refusalsForgotten(check);
        answering(check);
        listAsTheCallBegan(check);
        wantedAndNotComeTo(check);
        onAJob(check);
        fullBooks(check);
        wrongInputs(check);
        check.end();
    }

    private static void orderOfCalls(Check check) {
        HiringHall hall = new HiringHall();
        for (int i = 0; i < 4; i++) {
            Check.ready(hall, 0, 0, 0);
        }
        int[] minutes = {300, 20, 300, 0};
        for (int minute : minutes) {
            hall.call(0, 1, 1, -1, minute);
        }
        check.due("morning()", hall.morning(), 4);
        int[] sent = {2, 1, 3, 0};
        for (int call = 0; call < 4; call++) {
            check.due("call " + call + " has worker " + sent[call], hall.why(call, sent[call], 0), 5);
            check.due("call " + call + ", the clock", hall.why(call, sent[call], 1), minutes[call]);
        }
        check.due("morning() without calls", hall.morning(), 0);
    }

    private static void lastDay(Check check) {
        HiringHall hall = new HiringHall();
        for (int day = 0; day < 99; day++) {
            check.due("morning of day " + day, hall.morning(), 0);
        }
        check.due("TODAY", hall.count(0), 99);
        Check.ready(hall, 0, 0, 99);
        check.due("a call of day 99", hall.call(0, 1, 1, -1, 0), 0);
        check.due("morning() on day 99", hall.morning(), -1);
        check.due("TODAY stays", hall.count(0), 99);
        check.due("its call is not worked", hall.why(0, 0, 0), -1);
        check.due("nobody signed", hall.list(0, 0), -1);
        check.due("nobody was sent", hall.count(4), 0);
        check.yes("refuse on day 99", hall.refuse(0, 0));
        check.due("anew(99, 99)", hall.anew(99, 99), 0);
    }

    private static void comingBack(Check check) {
        HiringHall hall = new HiringHall();
        Check.vote(hall, "short 2;", 0);
        for (int i = 0; i < 4; i++) {
            Check.ready(hall, 0, i, 0);
        }
        hall.call(0, 3, 1, -1, 0);
        hall.call(1, 2, 1, -1, 0);
        hall.call(2, 3, 1, -1, 0);
        check.due("morning of day 0", hall.morning(), 3);
        check.list(hall, 0, 3);
        hall.morning();
        check.list(hall, 0, 3);
        check.due("still on the job on its last day", hall.look(1, 2), 1);
        hall.morning();
        check.list(hall, 0, 1, 3);
        check.due("back from the short job", hall.look(1, 2), -1);
        check.due("still on the long one", hall.look(0, 2), 0);
        hall.morning();
        check.list(hall, 0, 1, 3, 0, 2);
        check.due("back from the long one", hall.look(0, 2), -1);
    }

    private static void shortOfTheDayOfReturn(Check check) {
        HiringHall hall = new HiringHall();
        Check.vote(hall, "short 9;", 0);
        Check.ready(hall, 0, 0, 0);
        Check.ready(hall, 0, 1, 0);
        hall.call(0, 2, 1, -1, 0);
        Check.mornings(hall, 2);
        Check.vote(hall, "short 1;", 2);
        hall.morning();
        check.list(hall, 0, 1, 0);
    }

    private static void comingBackAheadOfSigning(Check check) {
        HiringHall hall = new HiringHall();
        Check.ready(hall, 1, 0, 0);
        Check.ready(hall, 1, 1);
        hall.call(0, 1, 1, -1, 0);
        hall.morning();
        hall.worker(1);
        hall.worker(1);
        check.list(hall, 1, 1);
        hall.morning();
        check.list(hall, 1, 1, 0, 2, 3);
        check.due("signed on day 1", hall.look(3, 1), 1);
        check.due("not signed on day 0", hall.why(0, 2, 0), 0);
        check.due("not signed on day 0, the clock", hall.why(0, 2, 1), -1);
    }

    private static void booksAndPermit(Check check) {
        HiringHall hall = new HiringHall();
        Check.vote(hall, "permit 1;", 1);
        Check.ready(hall, 2, 0, 0, 1);
        Check.ready(hall, 1, 0, 0, 1);
        Check.ready(hall, 0, 0, 0, 1);
        hall.call(0, 1, 1, -1, 0);
        hall.call(0, 1, 9, -1, 1);
        check.due("without permit", hall.morning(), 2);
        check.due("book 0 ahead of book 1", hall.why(0, 2, 0), 5);
        check.due("then book 1", hall.why(1, 1, 0), 5);
        check.due("book 2 is not asked", hall.why(1, 0, 0), 6);
        hall.call(0, 1, 9, -1, 0);
        check.due("with permit", hall.morning(), 3);
        check.due("book 2 is asked", hall.why(2, 0, 0), 5);
    }

    private static void named(Check check) {
        HiringHall hall = new HiringHall();
        Check.ready(hall, 0, 0, 0, 1, 2, 3);
        Check.ready(hall, 1, 0, 0, 1, 2);
        Check.ready(hall, 2, 0, 0, 1, 2);
        hall.call(0, 1, 1, 1, 0);
        hall.morning();
        check.due("name is 0: down the list", hall.why(0, 0, 0), 5);
        Check.vote(hall, "name 1;answer 7;", 1);
        hall.call(0, 1, 1, 1, 0);
        hall.call(0, 1, 1, 2, 10);
        hall.morning();
        check.due("the named one goes first", hall.why(1, 1, 0), 5);
        check.due("the first of the list is not come to", hall.why(1, 0, 0), 6);
        check.due("named of book 2 without permit", hall.why(2, 2, 0), 6);
        check.due("the list is asked instead", hall.why(2, 0, 0), 5);
        Check.vote(hall, "permit 1;", 2);
        hall.call(0, 1, 2, 1, 100);
        hall.refuse(3, 1);
        hall.call(0, 1, 1, 1, 500);
        hall.refuse(4, 1);
        check.due("morning of day 2", hall.morning(), 2);
        check.due("the named one refuses", hall.why(3, 1, 0), 4);
        check.due("and is asked once", hall.why(3, 1, 1), 100);
        check.due("one refusal a call", hall.look(1, 3), 2);
        check.due("the list behind the named one", hall.why(3, 0, 1), 107);
        check.due("book 2 too", hall.why(3, 2, 0), 5);
        hall.call(0, 1, 1, 2, 0);
        hall.here(2, 3, 0, 600);
        hall.morning();
        check.due("named of book 2 with permit", hall.why(5, 2, 0), 5);
        check.due("ahead of book 0", hall.why(5, 0, 0), 6);
    }

    private static void papers(Check check) {
        HiringHall hall = new HiringHall();
        int worker = hall.worker(0);
        for (int day = 0; day < 6; day++) {
            hall.here(worker, day, 0, 600);
        }
        hall.paper(worker, 2, 1);
        check.due("another skill", whyOne(hall, 3), 2);
        check.due("on the last day", whyOne(hall, 2), 5);
        check.due("behind the last day", whyOne(hall, 2), 2);
        hall.paper(worker, 2, 9);
        check.due("told anew", whyOne(hall, 2), 5);
        hall.paper(worker, 2, 3);
        check.due("the latest told counts", whyOne(hall, 2), 2);
        hall.paper(worker, 2, 5);
        check.due("told and ending on that day", whyOne(hall, 2), 5);
    }

    private static void presence(Check check) {
        HiringHall hall = new HiringHall();
        hall.worker(0);
        hall.paper(0, 0, 99);
        hall.here(0, 0, 10, 20);
        hall.here(0, 1, 0, 600);
        hall.here(0, 1, 10, 20);
        hall.call(0, 1, 1, -1, 9);
        hall.call(0, 1, 1, -1, 20);
        hall.call(0, 1, 1, -1, 19);
        hall.morning();
        check.due("ahead of from", hall.why(0, 0, 0), 3);
        check.due("at the last minute", hall.why(2, 0, 0), 5);
        check.due("on the job by then", hall.why(1, 0, 0), 1);
        hall.call(0, 1, 1, -1, 20);
        hall.call(0, 1, 1, -1, 9);
        hall.morning();
        check.due("at to", hall.why(3, 0, 0), 3);
        check.due("the latest told counts", hall.why(4, 0, 0), 3);
        hall.call(0, 1, 1, -1, 10);
        hall.morning();
        check.due("never told", hall.why(5, 0, 0), 3);
        hall.here(0, 3, 10, 20);
        hall.call(0, 1, 1, -1, 10);
        hall.morning();
        check.due("at from", hall.why(6, 0, 0), 5);
    }

    private static void refusing(Check check) {
        HiringHall hall = new HiringHall();
        Check.vote(hall, "refuse 2;", 0);
        Check.ready(hall, 0, 0, 0, 1);
        Check.ready(hall, 0, 0, 0, 1);
        hall.call(0, 1, 1, -1, 0);
        hall.refuse(0, 0);
        hall.refuse(0, 1);
        check.due("nobody is sent", hall.morning(), 0);
        check.due("one refusal", hall.look(0, 3), 1);
        check.list(hall, 0, 0, 1);
        hall.call(0, 1, 1, -1, 0);
        hall.refuse(1, 0);
        hall.morning();
        check.due("with two it has none", hall.look(0, 3), 0);
        check.list(hall, 0, 0);
        check.due("sent, it has none", hall.look(1, 3), 0);
        hall.morning();
        check.list(hall, 0, 0, 1);
    }

    private static void refusalsAboveTheRule(Check check) {
        HiringHall hall = new HiringHall();
        Check.ready(hall, 0, 0, 0, 1, 2, 3);
        Check.ready(hall, 0, 1);
        for (int i = 0; i < 3; i++) {
            hall.refuse(hall.call(0, 1, 1, -1, 0), 0);
            hall.morning();
        }
        check.due("refuse is 0: they add up", hall.look(0, 3), 3);
        check.list(hall, 0, 0, 1);
        Check.vote(hall, "refuse 2;", 0);
        hall.refuse(hall.call(0, 1, 1, -1, 0), 0);
        hall.morning();
        check.due("more than as many", hall.look(0, 3), 0);
        check.list(hall, 0, 1, 0);
    }

    private static void refusalsForgotten(Check check) {
        HiringHall hall = new HiringHall();
        Check.ready(hall, 0, 0, 0);
        hall.refuse(hall.call(0, 1, 1, -1, 0), 0);
        hall.call(0, 1, 1, -1, 1);
        check.due("refused one, sent on the next", hall.morning(), 1);
        check.due("no refusals", hall.look(0, 3), 0);
    }

    private static void answering(Check check) {
        HiringHall hall = new HiringHall();
        Check.vote(hall, "answer 999;", 1);
        Check.vote(hall, "answer 40;", 0);
        for (int i = 0; i < 5; i++) {
            Check.ready(hall, 0, i == 3 ? 1 : 0, 0, 1);
        }
        hall.call(0, 1, 1, -1, 500);
        hall.refuse(0, 0);
        hall.refuse(0, 1);
        hall.refuse(0, 2);
        hall.morning();
        int[] clocks = {500, 540, 580, 620, 620};
        int[] reasons = {4, 4, 4, 2, 3};
        for (int worker = 0; worker < 5; worker++) {
            check.due("reason of " + worker, hall.why(0, worker, 0), reasons[worker]);
            check.due("clock of " + worker, hall.why(0, worker, 1), clocks[worker]);
        }
        hall.call(0, 1, 1, -1, 599);
        hall.refuse(1, 0);
        hall.call(0, 1, 1, -1, 599);
        hall.morning();
        check.due("a clock far behind the morning", hall.why(1, 4, 1), 1598);
        check.due("each call has its own clock", hall.why(2, 0, 1), 599);
    }

    private static void listAsTheCallBegan(Check check) {
        HiringHall hall = new HiringHall();
        Check.vote(hall, "refuse 1;answer 1;", 0);
        for (int i = 0; i < 3; i++) {
            Check.ready(hall, 0, 0, 0);
        }
        hall.call(0, 1, 3, -1, 0);
        hall.refuse(0, 0);
        hall.refuse(0, 1);
        hall.call(0, 1, 1, -1, 9);
        check.due("morning()", hall.morning(), 2);
        check.due("0 refuses at 0", hall.why(0, 0, 1), 0);
        check.due("1 refuses at 1", hall.why(0, 1, 1), 1);
        check.due("2 is sent at 2", hall.why(0, 2, 1), 2);
        check.due("2 is the first now and on a job", hall.why(1, 2, 0), 1);
        check.due("0 is next", hall.why(1, 0, 0), 5);
        check.due("1 is behind it", hall.why(1, 1, 0), 6);
        check.list(hall, 0, 1);
    }

    private static void wantedAndNotComeTo(Check check) {
        HiringHall hall = new HiringHall();
        for (int i = 0; i < 16; i++) {
            Check.ready(hall, i % 2, 0, 0);
        }
        hall.call(0, 30, 9, -1, 0);
        check.due("nine are sent", hall.morning(), 9);
        check.due("the last of book 0", hall.why(0, 14, 0), 5);
        check.due("the first of book 1", hall.why(0, 1, 0), 5);
        check.due("the second of book 1", hall.why(0, 3, 0), 6);
        check.due("its clock", hall.why(0, 3, 1), -1);
        check.due("list(0, 0)", hall.list(0, 0), -1);
        check.list(hall, 1, 3, 5, 7, 9, 11, 13, 15);
    }

    private static void onAJob(Check check) {
        HiringHall hall = new HiringHall();
        Check.ready(hall, 0, 0, 0, 1, 2);
        hall.call(0, 2, 1, -1, 0);
        hall.morning();
        hall.refuse(hall.call(1, 1, 1, -1, 3), 0);
        hall.morning();
        check.due("on a job, ahead of paper and refusal", hall.why(1, 0, 0), 1);
        check.due("its clock", hall.why(1, 0, 1), 3);
        check.due("look(0, 2)", hall.look(0, 2), 0);
        hall.call(0, 30, 1, -1, 0);
        check.due("free on the day behind the last", hall.morning(), 1);
        check.due("look(0, 2) then", hall.look(0, 2), 2);
    }

    private static void fullBooks(Check check) {
        for (int book = 0; book < 3; book++) {
            HiringHall hall = new HiringHall();
            Check.vote(hall, "permit 1;name 1;", 0);
            for (int i = 0; i < 16; i++) {
                Check.ready(hall, book, 0, 0);
            }
            hall.call(0, 1, 9, 15, 0);
            hall.call(0, 1, 9, 15, 0);
            check.due("all sixteen of book " + book, hall.morning(), 16);
            check.due("the named one is passed", hall.why(1, 15, 0), 1);
            hall.morning();
            check.list(hall, book, 0, 1, 2, 3, 4, 5, 6, 7, 8, 9, 10, 11, 12, 13, 14, 15);
        }
    }

    private static void wrongInputs(Check check) {
        HiringHall hall = new HiringHall();
        Check.ready(hall, 2, 0, 0);
        check.due("look ahead of the morning", hall.look(0, 0), 2);
        hall.call(0, 1, 1, -1, 0);
        check.due("why ahead of the morning", hall.why(0, 0, 0), -1);
        hall.morning();
        check.due("why(0, 0, 0)", hall.why(0, 0, 0), 6);
        int[][] wrong = {{-1, 0, 0}, {1, 0, 0}, {0, -1, 0}, {0, 1, 0}, {0, 0, -1}, {0, 0, 2}};
        for (int[] w : wrong) {
            check.due("why" + java.util.Arrays.toString(w), hall.why(w[0], w[1], w[2]), -1);
        }
        check.due("list(2, 0)", hall.list(2, 0), 0);
        check.due("list(2, 1)", hall.list(2, 1), -1);
        check.due("list(2, -1)", hall.list(2, -1), -1);
        check.due("list(3, 0)", hall.list(3, 0), -1);
        check.due("list(-1, 0)", hall.list(-1, 0), -1);
        check.due("list(2, MAX)", hall.list(2, Integer.MAX_VALUE), -1);
        check.due("look(1, 0)", hall.look(1, 0), -1);
        check.due("look(-1, 0)", hall.look(-1, 0), -1);
        check.due("look(0, -1)", hall.look(0, -1), -1);
        check.due("look(0, 4)", hall.look(0, 4), -1);
    }

    private static int whyOne(HiringHall hall, int skill) {
        int call = hall.call(skill, 1, 1, -1, 0);
        hall.morning();
        return hall.why(call, 0, 0);
    }
}
