import java.util.ArrayList;
import java.util.Comparator;
import java.util.HashMap;
import java.util.List;
import java.util.Map;
import java.util.TreeMap;
import java.util.regex.Matcher;
import java.util.regex.Pattern;

/**
 * The document written a second time, with no care for speed or room: it keeps what was told as it
 * was told, and works all mornings from the first one on whenever it is asked.
 */
final class PlainHall {
    private record Text(Map<String, Integer> lines, int from, int voted) { }
    private record Paper(int worker, int skill, int last, int told) { }
    private record Here(int worker, int day, int from, int to) { }
    private record Call(int number, int day, int skill, int days, int wanted, int name, int minute) { }
    private record Hours(int worker, int day, int hours, int told) { }
    private record Note(int reason, int clock) { }

    private static final List<String> KEYS =
            List.of("short", "refuse", "answer", "permit", "name", "fund 0", "fund 1", "fund 2");
    private static final Pattern TOKEN = Pattern.compile("[a-z]+|[0-9]+|[^ \n]");

    private int today;
    private final StringBuilder tape = new StringBuilder();
    private final List<Text> texts = new ArrayList<>();
    private final Map<Integer, Integer> undone = new HashMap<>();
    private int fault;
    private int place = -1;
    private final List<int[]> workers = new ArrayList<>();
    private final List<Paper> papers = new ArrayList<>();
    private final List<Here> heres = new ArrayList<>();
    private final List<Call> calls = new ArrayList<>();
    private final List<List<Integer>> refusers = new ArrayList<>();
    private final List<Hours> hours = new ArrayList<>();
    private final List<int[]> differences = new ArrayList<>();

    int feed(int... numbers) {
        if (tape.length() > 780) {
            return -1;
        }
        for (int number : numbers) {
            for (int shift = 24; shift >= 0; shift -= 8) {
                tape.append((char) (number >> shift & 0xff));
            }
        }
        return tape.length();
    }

    int vote(int n, int from) {
        if (n < 0 || n > tape.length() || from < 0 || from > 99 || texts.size() == 10) {
            return -2;
        }
        String text = tape.substring(0, n);
        tape.setLength(0);
        Map<String, Integer> lines = parse(text);
        if (lines == null) {
            return -1;
        }
        fault = 0;
        place = -1;
        texts.add(new Text(lines, from, today));
        return texts.size() - 1;
    }

    private Map<String, Integer> parse(String text) {
        List<String> tokens = new ArrayList<>();
        List<Integer> places = new ArrayList<>();
        Matcher matcher = TOKEN.matcher(text);
        while (matcher.find()) {
            tokens.add(matcher.group());
            places.add(matcher.start());
        }
        places.add(text.length());
        Map<String, Integer> lines = new TreeMap<>();
        int i = 0;
        while (i < tokens.size()) {
            int word = i;
            String key = tokens.get(i);
            if (!key.matches("short|refuse|answer|permit|name|fund")) {
                return wrong(1, places.get(i));
            }
            i++;
            if (key.equals("fund")) {
                int bad = numberFault(tokens, i, 2);
                if (bad != 0) {
                    return wrong(bad, places.get(i));
                }
                key = "fund " + Integer.parseInt(tokens.get(i));
                i++;
            }
            int bad = numberFault(tokens, i, key.matches("permit|name") ? 1 : 999);
            if (bad != 0) {
                return wrong(bad, places.get(i));
            }
            if (lines.containsKey(key)) {
                return wrong(3, places.get(word));
            }
            lines.put(key, Integer.parseInt(tokens.get(i)));
            i++;
            if (i == tokens.size() || !tokens.get(i).equals(";")) {
                return wrong(1, places.get(i));
            }
            i++;
        }
        return lines;
    }

    private static int numberFault(List<String> tokens, int i, int most) {
        if (i == tokens.size() || !tokens.get(i).matches("[0-9]+")) {
            return 1;
        }
        return new java.math.BigInteger(tokens.get(i)).compareTo(java.math.BigInteger.valueOf(most)) > 0 ? 2 : 0;
    }

    private Map<String, Integer> wrong(int number, int at) {
        fault = number;
        place = at;
        return null;
    }

    int fault(int what) {
        return what == 0 ? fault : what == 1 ? place : -1;
    }

    boolean undo(int text) {
        return text >= 0 && text < texts.size() && undone.putIfAbsent(text, today) == null;
    }

    int law(int what, int day, int known) {
        if (what < 0 || what > 7 || day < 0 || day > 99 || known < 0 || known > today) {
            return -1;
        }
        return rule(KEYS.get(what), day, known);
    }

    private int rule(String key, int day, int known) {
        for (int from = day; from >= 0; from--) {
            for (int t = texts.size() - 1; t >= 0; t--) {
                Text text = texts.get(t);
                boolean gone = undone.containsKey(t) && known >= undone.get(t);
                if (text.from == from && known >= text.voted && !gone && text.lines.containsKey(key)) {
                    return text.lines.get(key);
                }
            }
        }
        return 0;
    }

    int worker(int book) {
        if (book < 0 || book > 2 || workers.size() == 16) {
            return -1;
        }
        workers.add(new int[] {book, today});
        return workers.size() - 1;
    }

    private boolean isWorker(int worker) {
        return worker >= 0 && worker < workers.size();
    }

    boolean paper(int worker, int skill, int last) {
        if (!isWorker(worker) || skill < 0 || skill > 7 || last < 0 || last > 99 || papers.size() == 100) {
            return false;
        }
        return papers.add(new Paper(worker, skill, last, today));
    }

    boolean here(int worker, int day, int from, int to) {
        if (!isWorker(worker) || day < today || day > 99 || from < 0 || to > 600 || from >= to || heres.size() == 200) {
            return false;
        }
        return heres.add(new Here(worker, day, from, to));
    }

    int call(int skill, int days, int wanted, int name, int minute) {
        if (skill < 0 || skill > 7 || days < 1 || days > 30 || wanted < 1 || wanted > 9 || name < -1
                || name >= workers.size() || minute < 0 || minute > 599 || calls.size() == 60) {
            return -1;
        }
        calls.add(new Call(calls.size(), today, skill, days, wanted, name, minute));
        refusers.add(new ArrayList<>());
        return calls.size() - 1;
    }

    boolean refuse(int call, int worker) {
        if (call < 0 || call >= calls.size() || calls.get(call).day != today || !isWorker(worker)
                || refusers.get(call).contains(worker)) {
            return false;
        }
        return refusers.get(call).add(worker);
    }

    int morning() {
        if (today == 99) {
            return -1;
        }
        int before = new Run(today, -1).sent();
        today++;
        return new Run(today, -1).sent() - before;
    }

    int why(int call, int worker, int what) {
        if (call < 0 || call >= calls.size() || calls.get(call).day >= today || !isWorker(worker)
                || what < 0 || what > 1) {
            return -1;
        }
        Note note = new Run(today, -1).note(call, worker);
        return what == 0 ? note.reason : note.clock;
    }

    int list(int book, int k) {
        if (book < 0 || book > 2 || k < 0) {
            return -1;
        }
        Run run = new Run(today, -1);
        List<Integer> free = new ArrayList<>(run.lists.get(book));
        free.removeIf(run.jobs::containsKey);
        return k < free.size() ? free.get(k) : -1;
    }

    int look(int worker, int what) {
        if (!isWorker(worker) || what < 0 || what > 3) {
            return -1;
        }
        if (what < 2) {
            return workers.get(worker)[what];
        }
        Run run = new Run(today, -1);
        if (what == 2) {
            return run.jobs.containsKey(worker) ? run.jobs.get(worker).number : -1;
        }
        return run.refusals.getOrDefault(worker, 0);
    }

    boolean hours(int worker, int day, int many) {
        if (!isWorker(worker) || day < 0 || day > today || many < 0 || many > 24 || hours.size() == 150) {
            return false;
        }
        return hours.add(new Hours(worker, day, many, today));
    }

    int bank(int worker, int fund, int known) {
        if (!isWorker(worker) || fund < 0 || fund > 2 || known < 0 || known > today) {
            return -1;
        }
        Map<Integer, Integer> byDay = new HashMap<>();
        for (Hours told : hours) {
            if (told.worker == worker && told.told <= known) {
                byDay.put(told.day, told.hours);
            }
        }
        int sum = 0;
        for (Map.Entry<Integer, Integer> entry : byDay.entrySet()) {
            sum += entry.getValue() * rule("fund " + fund, entry.getKey(), known);
        }
        return sum;
    }

    int anew(int day, int known) {
        if (day < 0 || day > today || known < 0 || known > today) {
            return -1;
        }
        Run was = new Run(today, -1);
        Run there = new Run(day, known);
        differences.clear();
        for (Call call : calls) {
            for (int worker = 0; worker < workers.size() && call.day < day; worker++) {
                boolean sentWas = was.note(call.number, worker).reason == 5;
                boolean sentThere = there.note(call.number, worker).reason == 5;
                if (sentWas != sentThere) {
                    differences.add(new int[] {call.number, worker, sentThere ? 1 : 0});
                }
            }
        }
        return differences.size();
    }

    int differs(int k, int what) {
        return k >= 0 && k < differences.size() && what >= 0 && what < 3 ? differences.get(k)[what] : -1;
    }

    int count(int what) {
        switch (what) {
            case 0: return today;
            case 1: return workers.size();
            case 2: return calls.size();
            case 3: return texts.size();
            case 4: return new Run(today, -1).sent();
            case 5: return hours.size();
            case 6: return texts.stream().mapToInt(text -> text.lines.size()).sum();
            default: return -1;
        }
    }

    /** All mornings ahead of a day, by rules as known on each of them, or on one day for all. */
    private final class Run {
        private final List<List<Integer>> lists = List.of(new ArrayList<>(), new ArrayList<>(), new ArrayList<>());
        private final Map<Integer, Call> jobs = new HashMap<>();
        private final Map<Integer, Integer> refusals = new HashMap<>();
        private final Map<String, Note> notes = new HashMap<>();

        private Run(int ahead, int known) {
            for (int day = 0; day < ahead; day++) {
                work(day, known < 0 ? day : known);
            }
        }

        private void work(int day, int known) {
            for (int worker = 0; worker < workers.size(); worker++) {
                Call job = jobs.get(worker);
                if (job != null && job.day + job.days == day) {
                    jobs.remove(worker);
                    if (job.days > rule("short", day, known)) {
                        toEnd(worker);
                    }
                }
            }
            for (int worker = 0; worker < workers.size(); worker++) {
                if (workers.get(worker)[1] == day) {
                    toEnd(worker);
                }
            }
            List<Call> due = new ArrayList<>(calls);
            due.removeIf(call -> call.day != day);
            due.sort(Comparator.comparingInt(Call::minute).thenComparingInt(Call::number));
            for (Call call : due) {
                work(call, known);
            }
        }

        private void toEnd(int worker) {
            List<Integer> list = lists.get(workers.get(worker)[0]);
            list.remove(Integer.valueOf(worker));
            list.add(worker);
        }

        private void work(Call call, int known) {
            int day = call.day;
            int clock = call.minute;
            int sent = 0;
            for (int worker : asked(call, known)) {
                if (sent == call.wanted) {
                    break;
                }
                int reason = reason(call, worker, clock);
                notes.put(call.number + " " + worker, new Note(reason, clock));
                if (reason == 4) {
                    int many = refusals.merge(worker, 1, Integer::sum);
                    int most = rule("refuse", day, known);
                    if (most > 0 && many >= most) {
                        refusals.remove(worker);
                        toEnd(worker);
                    }
                    clock += rule("answer", day, known);
                } else if (reason == 5) {
                    sent++;
                    jobs.put(worker, call);
                    refusals.remove(worker);
                }
            }
        }

        private List<Integer> asked(Call call, int known) {
            List<Integer> asked = new ArrayList<>(lists.get(0));
            asked.addAll(lists.get(1));
            if (rule("permit", call.day, known) == 1) {
                asked.addAll(lists.get(2));
            }
            if (rule("name", call.day, known) == 1 && asked.remove(Integer.valueOf(call.name))) {
                asked.add(0, call.name);
            }
            return asked;
        }

        private int reason(Call call, int worker, int clock) {
            int last = -1;
            for (Paper paper : papers) {
                if (paper.worker == worker && paper.skill == call.skill && paper.told <= call.day) {
                    last = paper.last;
                }
            }
            boolean isHere = false;
            for (Here here : heres) {
                if (here.worker == worker && here.day == call.day) {
                    isHere = here.from <= clock && clock < here.to;
                }
            }
            if (jobs.containsKey(worker)) {
                return 1;
            }
            if (last < call.day) {
                return 2;
            }
            if (!isHere) {
                return 3;
            }
            return refusers.get(call.number).contains(worker) ? 4 : 5;
        }

        private Note note(int call, int worker) {
            int reason = workers.get(worker)[1] <= calls.get(call).day ? 6 : 0;
            return notes.getOrDefault(call + " " + worker, new Note(reason, -1));
        }

        private int sent() {
            return (int) notes.values().stream().filter(note -> note.reason == 5).count();
        }
    }
}
