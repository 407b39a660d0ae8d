/** Promises 18 and 19: anew and differs. */
public final class AnewTest {
    public static void main(String[] args) {
        Check check = new Check();
        nameKnownLate(check);
        undoneLater(check);
        carriesOver(check);
        papersAsTold(check);
        standsBeside(check);
        onlyToTheDay(check);
        startsFromNothing(check);
        check.end();
    }

    private static void nameKnownLate(Check check) {
        HiringHall hall = new HiringHall();
        Check.ready(hall, 0, 0, 0);
        Check.ready(hall, 0, 0, 0);
        Check.ready(hall, 0, 1, 0);
        hall.call(0, 1, 1, 1, 10);
        hall.call(1, 1, 1, -1, 0);
        hall.morning();
        Check.vote(hall, "name 1;", 0);
        check.due("anew(1, 0)", hall.anew(1, 0), 0);
        check.due("anew(1, 1)", hall.anew(1, 1), 2);
        int[][] due = {{0, 0, 0}, {0, 1, 1}};
        for (int k = 0; k < 2; k++) {
            for (int what = 0; what < 3; what++) {
                check.due("differs(" + k + ", " + what + ")", hall.differs(k, what), due[k][what]);
            }
        }
        check.due("differs(2, 0)", hall.differs(2, 0), -1);
        check.due("differs(-1, 0)", hall.differs(-1, 0), -1);
        check.due("differs(0, 3)", hall.differs(0, 3), -1);
        check.due("differs(0, -1)", hall.differs(0, -1), -1);
        int[][] wrong = {{-1, 0}, {2, 0}, {0, -1}, {0, 2}};
        for (int[] w : wrong) {
            check.due("anew" + java.util.Arrays.toString(w), hall.anew(w[0], w[1]), -1);
        }
        check.due("an anew of NONE leaves the latest", hall.differs(1, 1), 1);
        check.due("anew(0, 1)", hall.anew(0, 1), 0);
        check.due("no difference then", hall.differs(0, 0), -1);
    }

    private static void undoneLater(Check check) {
        HiringHall hall = new HiringHall();
        Check.vote(hall, "permit 1;", 0);
        Check.ready(hall, 2, 0, 0);
        hall.call(0, 1, 1, -1, 0);
        hall.morning();
        hall.undo(0);
        check.due("anew(1, 0)", hall.anew(1, 0), 0);
        check.due("anew(1, 1)", hall.anew(1, 1), 1);
        check.due("it was sent and is not", hall.differs(0, 2), 0);
    }

    private static void carriesOver(Check check) {
        HiringHall hall = new HiringHall();
        Check.ready(hall, 0, 0, 0, 1);
        Check.ready(hall, 0, 0, 0, 1);
        hall.call(0, 1, 1, -1, 0);
        hall.morning();
        hall.call(0, 1, 1, -1, 0);
        hall.morning();
        check.due("it went to the end", hall.why(1, 1, 0), 5);
        Check.vote(hall, "short 1;", 0);
        check.due("anew(2, 2)", hall.anew(2, 2), 2);
        check.due("by worker", hall.differs(0, 1), 0);
        check.due("sent there", hall.differs(0, 2), 1);
        check.due("by worker, the next", hall.differs(1, 1), 1);
        check.due("sent as it was", hall.differs(1, 2), 0);
        check.due("anew twice is the same", hall.anew(2, 2), 2);
    }

    private static void papersAsTold(Check check) {
        HiringHall hall = new HiringHall();
        hall.worker(0);
        Check.ready(hall, 2, 0, 0);
        hall.here(0, 0, 0, 600);
        hall.call(0, 1, 1, -1, 0);
        hall.morning();
        hall.paper(0, 0, 99);
        hall.paper(1, 0, 0);
        hall.worker(0);
        check.due("a paper told later does not hold", hall.anew(1, 1), 0);
        Check.vote(hall, "permit 1;", 0);
        check.due("the one told then does", hall.anew(1, 1), 1);
        check.due("it is worker 1", hall.differs(0, 1), 1);
    }

    private static void standsBeside(Check check) {
        HiringHall hall = new HiringHall();
        Check.ready(hall, 0, 0, 0, 1);
        Check.ready(hall, 0, 0, 0, 1);
        hall.refuse(hall.call(0, 2, 1, -1, 0), 0);
        hall.morning();
        Check.vote(hall, "refuse 1;answer 600;", 0);
        check.due("anew(1, 1)", hall.anew(1, 1), 1);
        check.due("why stays", hall.why(0, 1, 0), 5);
        check.due("look(0, 3) stays", hall.look(0, 3), 1);
        check.due("look(1, 2) stays", hall.look(1, 2), 0);
        check.due("list stays", hall.list(0, 0), 0);
        check.due("count(4) stays", hall.count(4), 1);
        check.due("TODAY stays", hall.count(0), 1);
        hall.call(0, 1, 1, -1, 0);
        check.due("the next morning is the hall's own", hall.morning(), 1);
        check.due("differs stays", hall.differs(0, 1), 1);
        check.due("differs has no more", hall.differs(1, 1), -1);
    }

    private static void onlyToTheDay(Check check) {
        HiringHall hall = new HiringHall();
        Check.ready(hall, 2, 0, 0, 1);
        hall.call(0, 1, 1, -1, 0);
        hall.morning();
        hall.call(0, 1, 1, -1, 0);
        hall.morning();
        Check.vote(hall, "permit 1;", 0);
        check.due("anew(0, 2)", hall.anew(0, 2), 0);
        check.due("anew(1, 2)", hall.anew(1, 2), 1);
        check.due("anew(2, 2)", hall.anew(2, 2), 2);
        check.due("by calls", hall.differs(1, 0), 1);
        hall.morning();
        check.due("sent as it was", hall.count(4), 0);
    }

    private static void startsFromNothing(Check check) {
        HiringHall hall = new HiringHall();
        Check.vote(hall, "refuse 2;", 0);
        Check.ready(hall, 0, 0, 0, 1);
        Check.ready(hall, 0, 0, 0, 1);
        hall.paper(0, 5, 99);
        hall.refuse(hall.call(5, 1, 1, -1, 0), 0);
        hall.morning();
        hall.call(0, 1, 1, -1, 0);
        hall.morning();
        check.due("anew(1, 2)", hall.anew(1, 2), 0);
        check.due("no refusals are left from the one ahead", hall.anew(2, 2), 0);
        check.due("no jobs are left from the one ahead", hall.anew(2, 2), 0);
    }
}
