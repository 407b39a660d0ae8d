import java.nio.charset.StandardCharsets;
import java.util.Arrays;

/** Counts and prints the answers that are not the ones due, and feeds texts. */
final class Check {
    private int wrong;

    void due(String call, long got, long want) {
        if (got != want) {
            wrong++;
            System.out.println(call + " answered " + got + ", due is " + want);
        }
    }

    void yes(String call, boolean got) {
        due(call, got ? 1 : 0, 1);
    }

    void no(String call, boolean got) {
        due(call, got ? 1 : 0, 0);
    }

    /** Ends the run with exit code 1 if an answer was wrong. */
    void end() {
        if (wrong != 0) {
            System.out.println(wrong + " answers are not as due");
            System.exit(1);
        }
    }

    static int feed(HiringHall hall, String text) {
        byte[] bytes = text.getBytes(StandardCharsets.ISO_8859_1);
        int length = 0;
        for (int at = 0; at < bytes.length; at += 20) {
            byte[] part = Arrays.copyOf(Arrays.copyOfRange(bytes, at, Math.min(bytes.length, at + 20)), 20);
            int[] words = new int[5];
            for (int i = 0; i < 20; i++) {
                words[i / 4] = words[i / 4] << 8 | (part[i] & 255);
            }
            length = hall.feed(words[0], words[1], words[2], words[3], words[4]);
        }
        return length;
    }

    static int vote(HiringHall hall, String text, int from) {
        feed(hall, text);
        return hall.vote(text.length(), from);
    }

    /** A worker with a paper for the skill till the last day, here all morning on the days given. */
    static int ready(HiringHall hall, int book, int skill, int... days) {
        int worker = hall.worker(book);
        hall.paper(worker, skill, 99);
        for (int day : days) {
            hall.here(worker, day, 0, 600);
        }
        return worker;
    }

    static void mornings(HiringHall hall, int many) {
        for (int i = 0; i < many; i++) {
            hall.morning();
        }
    }
}
