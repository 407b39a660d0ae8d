import java.nio.charset.StandardCharsets;
import java.util.Arrays;
import java.util.Random;

/** Long runs of drawn calls (the same ones each time), HiringHall against PlainHall. */
public final class ModelTest {
    private static final int RUNS = 400;
    // An object has 512 calls; a step makes at most 12.
    private static final int CALLS = 512 - 12;
    private static final int FACE = 19;

    private static final int[][] MIXES = {
        // feed vote fault undo law worker paper here call refuse morning why list look hours bank anew differs count
        {3, 4, 1, 1, 2, 4, 12, 30, 10, 6, 5, 8, 4, 5, 6, 5, 6, 6, 2},
        {1, 2, 1, 1, 1, 1, 3, 8, 3, 2, 6, 3, 2, 2, 8, 5, 4, 4, 2},
        {6, 6, 4, 2, 6, 1, 1, 1, 1, 1, 2, 1, 1, 1, 2, 3, 1, 1, 2},
        {1, 1, 1, 1, 1, 8, 20, 40, 12, 12, 2, 10, 8, 8, 1, 1, 4, 4, 1},
        {1, 2, 1, 1, 1, 2, 8, 30, 8, 8, 8, 6, 3, 3, 1, 1, 12, 12, 1},
        // so many mornings that the last day comes
        {1, 1, 1, 1, 2, 1, 4, 12, 4, 3, 28, 4, 3, 3, 4, 4, 3, 3, 2},
    };
    private static final String[] LINES = {"short 1", "short 2", "short 0", "short 30", "refuse 1", "refuse 2",
        "refuse 3", "answer 1", "answer 100", "answer 300", "permit 1", "permit 0", "name 1", "name 0",
        "fund 0 3", "fund 1 5", "fund 2 999", "fund 0 1"};
    private static final String[] PIECES = {"short", "refuse", "fund", "permit", "name", "answer", "fond", "1", "2",
        "3", "0", "00", "999", "1000", "99999999999", ";", ";", ";", " ", "\n", "?", "\u00ff", "A"};

    private final Random random;
    private final HiringHall hall = new HiringHall();
    private final PlainHall plain = new PlainHall();
    private final StringBuilder log = new StringBuilder();
    private int made;
    private boolean isWrong;

    private ModelTest(int seed) {
        random = new Random(seed);
    }

    public static void main(String[] args) {
        int runs = args.length > 0 ? Integer.parseInt(args[0]) : RUNS;
        for (int seed = 0; seed < runs; seed++) {
            if (new ModelTest(seed).isWrong()) {
                System.exit(1);
            }
        }
    }

    private boolean isWrong() {
        int[] mix = MIXES[random.nextInt(MIXES.length)];
        int all = Arrays.stream(mix).sum();
        while (made < CALLS && !isWrong) {
            int left = random.nextInt(all);
            int which = 0;
            while (left >= mix[which]) {
                left -= mix[which];
                which++;
            }
            step(which % FACE);
        }
        if (isWrong) {
            System.out.print(log);
        }
        return isWrong;
    }

    private void step(int which) {
        int today = plain.count(0);
        switch (which) {
            case 0 -> text();
            case 1 -> { text(); undoOrVote(); }
            case 2 -> { int a = wild(1); same("fault " + a, hall.fault(a), plain.fault(a)); }
            case 3 -> { int a = wild(9); same("undo " + a, hall.undo(a), plain.undo(a)); }
            case 4 -> { int a = wild(7), b = wild(99), c = wild(today);
                same("law " + a + " " + b + " " + c, hall.law(a, b, c), plain.law(a, b, c)); }
            case 5 -> { int a = wild(2); same("worker " + a, hall.worker(a), plain.worker(a)); }
            case 6 -> { int a = who(), b = wild(random.nextInt(3)), c = wild(99);
                same("paper " + a + " " + b + " " + c, hall.paper(a, b, c), plain.paper(a, b, c)); }
            case 7 -> here(today);
            case 8 -> call();
            case 9 -> { int a = plain.count(2) - 1 - random.nextInt(2), b = who();
                same("refuse " + a + " " + b, hall.refuse(a, b), plain.refuse(a, b)); }
            case 10 -> same("morning", hall.morning(), plain.morning());
            case 11 -> { int a = wild(Math.max(0, plain.count(2) - 1)), b = who(), c = wild(1);
                same("why " + a + " " + b + " " + c, hall.why(a, b, c), plain.why(a, b, c)); }
            case 12 -> { int a = wild(2), b = wild(4); same("list " + a + " " + b, hall.list(a, b), plain.list(a, b)); }
            case 13 -> { int a = who(), b = wild(3); same("look " + a + " " + b, hall.look(a, b), plain.look(a, b)); }
            case 14 -> { int a = who(), b = wild(today), c = wild(24);
                same("hours " + a + " " + b + " " + c, hall.hours(a, b, c), plain.hours(a, b, c)); }
            case 15 -> { int a = who(), b = wild(2), c = wild(today);
                same("bank " + a + " " + b + " " + c, hall.bank(a, b, c), plain.bank(a, b, c)); }
            case 16 -> { int a = random.nextBoolean() ? today : wild(today), b = random.nextBoolean() ? today : wild(today);
                same("anew " + a + " " + b, hall.anew(a, b), plain.anew(a, b)); }
            case 17 -> { int a = wild(3), b = wild(2);
                same("differs " + a + " " + b, hall.differs(a, b), plain.differs(a, b)); }
            default -> { int a = wild(6); same("count " + a, hall.count(a), plain.count(a)); }
        }
    }

    /** Mostly 0 .. most, at times one beside it or far off. */
    private int wild(int most) {
        int kind = random.nextInt(40);
        if (kind == 0) {
            return -1;
        }
        if (kind == 1) {
            return most + 1;
        }
        if (kind == 2) {
            return random.nextInt();
        }
        if (kind == 3) {
            return random.nextBoolean() ? Integer.MIN_VALUE : Integer.MAX_VALUE;
        }
        if (kind == 4) {
            return most;
        }
        return random.nextInt(most + 1);
    }

    private int who() {
        return wild(Math.max(0, plain.count(1) - 1));
    }

    private void text() {
        StringBuilder text = new StringBuilder();
        int many = random.nextInt(4);
        boolean isPlain = random.nextInt(3) > 0;
        for (int i = 0; i < many; i++) {
            text.append(isPlain ? LINES[random.nextInt(LINES.length)] + ";" : PIECES[random.nextInt(PIECES.length)]);
        }
        byte[] bytes = Arrays.copyOf(text.toString().getBytes(StandardCharsets.ISO_8859_1), 20 * (text.length() / 20 + 1));
        for (int at = text.length(); at < bytes.length; at++) {
            bytes[at] = ' ';
        }
        for (int at = 0; at < bytes.length; at += 20) {
            int[] w = new int[5];
            for (int i = 0; i < 20; i++) {
                w[i / 4] = w[i / 4] << 8 | (bytes[at + i] & 255);
            }
            same("feed " + Arrays.toString(w), hall.feed(w[0], w[1], w[2], w[3], w[4]), plain.feed(w));
        }
        if (random.nextInt(3) > 0) {
            vote(bytes.length);
        }
    }

    private void undoOrVote() {
        int text = random.nextInt(10);
        if (random.nextInt(3) == 0) {
            same("undo " + text, hall.undo(text), plain.undo(text));
        } else {
            vote(wild(60));
        }
    }

    private void vote(int n) {
        int today = plain.count(0);
        int from = random.nextInt(3) == 0 ? wild(99) : Math.min(99, random.nextInt(today + 2));
        same("vote " + n + " " + from, hall.vote(n, from), plain.vote(n, from));
        same("fault 0", hall.fault(0), plain.fault(0));
        same("fault 1", hall.fault(1), plain.fault(1));
    }

    private void here(int today) {
        int worker = who();
        int day = random.nextInt(8) == 0 ? wild(99) : today + random.nextInt(2);
        boolean isWhole = random.nextInt(3) > 0;
        int from = isWhole ? 0 : wild(600);
        int to = isWhole ? 600 : wild(600);
        same("here " + worker + " " + day + " " + from + " " + to, hall.here(worker, day, from, to),
                plain.here(worker, day, from, to));
    }

    private void call() {
        int skill = wild(random.nextInt(3));
        int days = 1 + wild(random.nextInt(5) == 0 ? 29 : 2);
        int wanted = 1 + wild(random.nextInt(3) == 0 ? 8 : 1);
        int name = random.nextInt(2) == 0 ? -1 : who();
        int minute = wild(random.nextInt(2) == 0 ? 3 : 599);
        same("call " + skill + " " + days + " " + wanted + " " + name + " " + minute,
                hall.call(skill, days, wanted, name, minute), plain.call(skill, days, wanted, name, minute));
    }

    private void same(String call, boolean got, boolean want) {
        same(call, got ? 1 : 0, want ? 1 : 0);
    }

    private void same(String call, int got, int want) {
        made++;
        log.append(call).append(" answered ").append(got);
        if (got != want) {
            isWrong = true;
            log.append(", due is ").append(want);
        }
        log.append('\n');
    }
}
