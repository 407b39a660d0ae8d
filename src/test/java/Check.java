import java.nio.charset.StandardCharsets;
import java.util.Arrays;

/** Counts and prints the answers that are not the ones due, and feeds texts. */
final class Check {
    private int wrong;
    private String about = "";

    /** The answers checked from here on hold to these words of the document; they must stand in it. */
    void words(String section, String quoted) {
        about = section + ", \"" + quoted + "\": ";
        if (!Document.quote(section, quoted)) {
            wrong++;
            System.out.println(about + "the document has no such words there");
        }
    }

    /** Words of the document that no test has quoted are wrong too. */
    void allIsQuoted() {
        about = "";
        for (String words : Document.unquoted()) {
            wrong++;
            System.out.println("no test quotes " + words);
        }
    }

    void due(String call, long got, long want) {
        if (got != want) {
            wrong++;
            System.out.println(about + call + " answered " + got + ", due is " + want);
        }
    }

    void yes(String call, boolean got) {
        due(call, got ? 1 : 0, 1);
    }

    void no(String call, boolean got) {
        due(call, got ? 1 : 0, 0);
    }

    void none(String call, int got) {
        due(call, got, HiringHall.NONE);
    }

    /** Nothing that can be asked for has changed since state() was taken. */
    void unchanged(String behind, String before, HiringHall hall) {
        String now = state(hall);
        if (!now.equals(before)) {
            wrong++;
            System.out.println(about + behind + ": the state was" + before + "\n  and is" + now);
        }
    }

    /** The LIST of a BOOK has these workers and no more. */
    void list(HiringHall hall, int book, int... due) {
        String day = "on DAY " + hall.count(0) + " ";
        for (int k = 0; k < due.length; k++) {
            due(day + "list(" + book + ", " + k + ")", hall.list(book, k), due[k]);
        }
        none(day + "list(" + book + ", " + due.length + ")", hall.list(book, due.length));
    }

    /** What why() says of workers 0, 1, 2 .. and a CALL: for each worker its number, then the clock. */
    void whys(HiringHall hall, int call, int... numbersAndClocks) {
        for (int i = 0; i < numbersAndClocks.length; i++) {
            due("why(" + call + ", " + i / 2 + ", " + i % 2 + ")", hall.why(call, i / 2, i % 2), numbersAndClocks[i]);
        }
    }

    /** A text that is voted, and its LINES. */
    void sound(String text, int lines) {
        HiringHall hall = new HiringHall();
        due("vote of '" + text + "'", vote(hall, text, 0), 0);
        due("fault of '" + text + "'", hall.fault(0), 0);
        none("place in '" + text + "'", hall.fault(1));
        due("lines of '" + text + "'", hall.count(6), lines);
    }

    /** A text that has a FAULT, and its place. */
    void faulty(String text, int fault, int place) {
        HiringHall hall = new HiringHall();
        none("vote of '" + text + "'", vote(hall, text, 0));
        due("fault of '" + text + "'", hall.fault(0), fault);
        due("place in '" + text + "'", hall.fault(1), place);
        due("lines of '" + text + "'", hall.count(6), 0);
    }

    /** Ends the run with exit code 1 if an answer was wrong. */
    void end() {
        if (wrong != 0) {
            System.out.println(wrong + " answers are not as due");
            System.exit(1);
        }
    }

    static int feed(HiringHall hall, String text) {
        byte[] bytes = text.getBytes(StandardCharsets.ISO_8859_1);
        int length = 0;
        for (int at = 0; at < bytes.length; at += 20) {
            byte[] part = Arrays.copyOf(Arrays.copyOfRange(bytes, at, Math.min(bytes.length, at + 20)), 20);
            int[] words = new int[5];
            for (int i = 0; i < 20; i++) {
                words[i / 4] = words[i / 4] << 8 | (part[i] & 255);
            }
            length = hall.feed(words[0], words[1], words[2], words[3], words[4]);
        }
        return length;
    }

    static int vote(HiringHall hall, String text, int from) {
        feed(hall, text);
        return hall.vote(text.length(), from);
    }

    /** A worker with a paper for the skill till the last day, here all morning on the days given. */
    static int ready(HiringHall hall, int book, int skill, int... days) {
        int worker = hall.worker(book);
        hall.paper(worker, skill, 99);
        for (int day : days) {
            hall.here(worker, day, 0, 600);
        }
        return worker;
    }

    static void mornings(HiringHall hall, int many) {
        for (int i = 0; i < many; i++) {
            hall.morning();
        }
    }

    /** A hall whose TODAY is this DAY. */
    static HiringHall onDay(int day) {
        HiringHall hall = new HiringHall();
        mornings(hall, day);
        return hall;
    }

    /** The answers about TODAY, three workers and three CALLS: some seventy calls, as an object has 512. */
    static String state(HiringHall hall) {
        StringBuilder state = new StringBuilder();
        int today = hall.count(0);
        for (int what = 0; what < 8; what++) {
            state.append(" count ").append(hall.count(what)).append(" law ").append(hall.law(what, 99, today));
        }
        state.append(" fault ").append(hall.fault(0)).append(' ').append(hall.fault(1));
        for (int i = 0; i < 9; i++) {
            state.append(" list ").append(hall.list(i / 3, i % 3));
            state.append(" bank ").append(hall.bank(i / 3, i % 3, today));
            state.append(" why ").append(hall.why(i / 3, i % 3, 0)).append(' ').append(hall.why(i / 3, i % 3, 1));
        }
        for (int i = 0; i < 6; i++) {
            state.append(" look ").append(hall.look(i / 2, 2 + i % 2));
            state.append(" differs ").append(hall.differs(i / 3, i % 3));
        }
        return state.toString();
    }
}
