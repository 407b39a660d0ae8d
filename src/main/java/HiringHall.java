import java.util.Arrays;

/**
 * A hiring hall: workers on the lists of three books, calls worked by mornings under rules
 * that are voted and undone, hours banked toward funds, and mornings worked anew beside.
 */
public final class HiringHall {
    public static final int NONE = -1;

    private static final int REFUSED_VOTE = -2;

    private static final int DAYS = 100;
    private static final int MINUTES = 600;
    private static final int BOOKS = 3;
    private static final int SKILLS = 8;
    private static final int FUNDS = 3;

    private static final int MOST_BYTES = 800;
    private static final int FED_BYTES = 20;
    private static final int MOST_TEXTS = 10;
    private static final int MOST_WORKERS = 16;
    private static final int MOST_PAPERS = 100;
    private static final int MOST_HERES = 200;
    private static final int MOST_CALLS = 60;
    private static final int MOST_HOURS_TOLD = 150;
    private static final int MOST_JOB_DAYS = 30;
    private static final int MOST_WANTED = 9;
    private static final int HOURS_OF_A_DAY = 24;

    private static final int SHORT = 0;
    private static final int REFUSE = 1;
    private static final int ANSWER = 2;
    private static final int PERMIT = 3;
    private static final int NAME = 4;
    private static final int FUND = 5;
    private static final int WORDS = 6;
    private static final int KEYS = FUND + FUNDS;

    private static final int NOT_SIGNED = 0;
    private static final int ON_A_JOB = 1;
    private static final int NO_PAPER = 2;
    private static final int NOT_HERE = 3;
    private static final int REFUSED = 4;
    private static final int SENT = 5;
    private static final int NOT_COME_TO = 6;

    private final Tape tape;
    private final Reader reader;
    private final Rules rules;
    private final Crew crew;
    private final Calls calls;
    private final Sheet sheet;
    private final Floor floor;
    private final Floor beside;
    private int today;

    public HiringHall() {
        tape = new Tape();
        reader = new Reader(tape);
        rules = new Rules();
        crew = new Crew();
        calls = new Calls();
        sheet = new Sheet(rules);
        floor = new Floor(rules, crew, calls);
        beside = new Floor(rules, crew, calls);
    }

    public int feed(int a, int b, int c, int d, int e) {
        if (!tape.hasRoom()) {
            return NONE;
        }
        tape.add(a);
        tape.add(b);
        tape.add(c);
        tape.add(d);
        tape.add(e);
        return tape.length;
    }

    public int vote(int n, int from) {
        if (n < 0 || n > tape.length || !isBelow(from, DAYS) || rules.texts >= MOST_TEXTS) {
            return REFUSED_VOTE;
        }
        reader.read(n);
        tape.clear();
        if (reader.fault != Reader.SOUND) {
            return NONE;
        }
        return rules.add(reader.says, reader.lines, from, today);
    }

    public int fault(int what) {
        switch (what) {
            case 0:
                return reader.fault;
            case 1:
                return reader.faultPlace;
            default:
                return NONE;
        }
    }

    public boolean undo(int text) {
        return isBelow(text, rules.texts) && rules.strike(text, today);
    }

    public int law(int what, int day, int known) {
        if (!isBelow(what, KEYS) || !isBelow(day, DAYS) || !hasCome(known)) {
            return NONE;
        }
        return rules.said(what, day, known);
    }

    public int worker(int book) {
        if (!isBelow(book, BOOKS) || crew.size >= MOST_WORKERS) {
            return NONE;
        }
        return crew.add(book, today);
    }

    public boolean paper(int worker, int skill, int last) {
        if (!isBelow(worker, crew.size) || !isBelow(skill, SKILLS) || !isBelow(last, DAYS)
                || crew.papers >= MOST_PAPERS) {
            return false;
        }
        crew.addPaper(worker, skill, last, today);
        return true;
    }

    public boolean here(int worker, int day, int from, int to) {
        if (!isBelow(worker, crew.size) || day < today || !isBelow(day, DAYS)
                || from < 0 || from >= to || to > MINUTES || crew.heres >= MOST_HERES) {
            return false;
        }
        crew.addHere(worker, day, from, to);
        return true;
    }

    public int call(int skill, int days, int wanted, int name, int minute) {
        if (!isBelow(skill, SKILLS) || days < 1 || days > MOST_JOB_DAYS
                || wanted < 1 || wanted > MOST_WANTED
                || (name != NONE && !isBelow(name, crew.size))
                || !isBelow(minute, MINUTES) || calls.size >= MOST_CALLS) {
            return NONE;
        }
        return calls.add(skill, days, wanted, name, minute, today);
    }

    public boolean refuse(int call, int worker) {
        return isBelow(call, calls.size) && calls.day[call] == today
                && isBelow(worker, crew.size) && calls.addRefusal(call, worker);
    }

    public int morning() {
        if (today >= DAYS - 1) {
            return NONE;
        }
        int sent = floor.work(today, today);
        today++;
        return sent;
    }

    public int why(int call, int worker, int what) {
        if (!isBelow(call, floor.callsDone) || !isBelow(worker, crew.size)) {
            return NONE;
        }
        switch (what) {
            case 0:
                return floor.outcomeNoted(call, worker);
            case 1:
                return floor.clockNoted(call, worker);
            default:
                return NONE;
        }
    }

    public int list(int book, int k) {
        if (!isBelow(book, BOOKS) || k < 0) {
            return NONE;
        }
        return floor.freeOnList(book, k);
    }

    public int look(int worker, int what) {
        if (!isBelow(worker, crew.size)) {
            return NONE;
        }
        switch (what) {
            case 0:
                return crew.book[worker];
            case 1:
                return crew.signed[worker];
            case 2:
                return floor.job[worker];
            case 3:
                return floor.refusals[worker];
            default:
                return NONE;
        }
    }

    public boolean hours(int worker, int day, int hours) {
        if (!isBelow(worker, crew.size) || !hasCome(day) || hours < 0 || hours > HOURS_OF_A_DAY
                || sheet.size >= MOST_HOURS_TOLD) {
            return false;
        }
        sheet.add(worker, day, hours, today);
        return true;
    }

    public int bank(int worker, int fund, int known) {
        if (!isBelow(worker, crew.size) || !isBelow(fund, FUNDS) || !hasCome(known)) {
            return NONE;
        }
        return sheet.sum(worker, fund, known);
    }

    public int anew(int day, int known) {
        if (!hasCome(day) || !hasCome(known)) {
            return NONE;
        }
        beside.clear();
        for (int d = 0; d < day; d++) {
            beside.work(d, known);
        }
        return countDifferences();
    }

    public int differs(int k, int what) {
        int pair = k < 0 ? NONE : findDifference(k);
        if (pair == NONE) {
            return NONE;
        }
        int call = pair / MOST_WORKERS;
        int worker = pair % MOST_WORKERS;
        switch (what) {
            case 0:
                return call;
            case 1:
                return worker;
            case 2:
                return beside.wasSent(call, worker) ? 1 : 0;
            default:
                return NONE;
        }
    }

    public int count(int what) {
        switch (what) {
            case 0:
                return today;
            case 1:
                return crew.size;
            case 2:
                return calls.size;
            case 3:
                return rules.texts;
            case 4:
                return floor.sentInAll;
            case 5:
                return sheet.size;
            case 6:
                return rules.lines;
            default:
                return NONE;
        }
    }

    private boolean hasCome(int day) {
        return day >= 0 && day <= today;
    }

    private static boolean isBelow(int number, int limit) {
        return number >= 0 && number < limit;
    }

    // Calls are numbered as the days go by, so the first callsDone numbers are those worked beside.
    private int countDifferences() {
        int found = 0;
        int pairs = beside.callsDone * MOST_WORKERS;
        for (int pair = 0; pair < pairs; pair++) {
            if (isDifference(pair)) {
                found++;
            }
        }
        return found;
    }

    private int findDifference(int k) {
        int left = k;
        int pairs = beside.callsDone * MOST_WORKERS;
        for (int pair = 0; pair < pairs; pair++) {
            if (isDifference(pair)) {
                if (left == 0) {
                    return pair;
                }
                left--;
            }
        }
        return NONE;
    }

    private boolean isDifference(int pair) {
        int call = pair / MOST_WORKERS;
        int worker = pair % MOST_WORKERS;
        return floor.wasSent(call, worker) != beside.wasSent(call, worker);
    }

    /** The bytes fed, kept four to a number as they came, which needs a quarter of the room. */
    private static final class Tape {
        private final int[] words = new int[MOST_BYTES / 4];
        private int length;

        private boolean hasRoom() {
            return length + FED_BYTES <= MOST_BYTES;
        }

        private void add(int word) {
            int at = length / 4;
            if (at < words.length) {
                words[at] = word;
                length += 4;
            }
        }

        private int byteAt(int place) {
            if (place < 0 || place >= length) {
                return NONE;
            }
            return words[place / 4] >>> (24 - 8 * (place % 4)) & 255;
        }

        private void clear() {
            length = 0;
        }
    }

    /** Reads a text off the tape; its answers stay until the next reading, as fault() wants them. */
    private static final class Reader {
        private static final int SOUND = 0;
        private static final int MISPLACED = 1;
        private static final int TOO_HIGH = 2;
        private static final int TWICE = 3;

        private static final int END = 0;
        private static final int WORD = 1;
        private static final int NUMBER = 2;
        private static final int SEMICOLON = 3;
        private static final int NO_TOKEN = 4;

        private static final int MOST_NUMBER = 999;

        private final Tape tape;
        private final int[] says = new int[KEYS];
        private int lines;
        private int fault = SOUND;
        private int faultPlace = NONE;

        private int length;
        private int place;
        private int kind;
        private int start;
        private int value;

        private Reader(Tape tape) {
            this.tape = tape;
        }

        private void read(int n) {
            Arrays.fill(says, NONE);
            lines = 0;
            fault = SOUND;
            faultPlace = NONE;
            length = n;
            place = 0;
            nextToken();
            for (int i = 0; i < length && kind != END && fault == SOUND; i++) {
                readLine();
            }
        }

        private void readLine() {
            int wordPlace = start;
            if (!isKind(WORD)) {
                return;
            }
            int key = value;
            nextToken();
            if (key == FUND) {
                if (!isNumberUpTo(FUNDS - 1)) {
                    return;
                }
                key = FUND + value;
                nextToken();
            }
            if (!isNumberUpTo(mostOf(key))) {
                return;
            }
            if (says[key] != NONE) {
                setFault(TWICE, wordPlace);
                return;
            }
            says[key] = value;
            lines++;
            nextToken();
            if (isKind(SEMICOLON)) {
                nextToken();
            }
        }

        private boolean isKind(int due) {
            if (kind != due) {
                setFault(MISPLACED, start);
                return false;
            }
            return true;
        }

        private boolean isNumberUpTo(int most) {
            if (!isKind(NUMBER)) {
                return false;
            }
            if (value > most) {
                setFault(TOO_HIGH, start);
                return false;
            }
            return true;
        }

        private void setFault(int number, int at) {
            fault = number;
            faultPlace = at;
        }

        private static int mostOf(int key) {
            return key == PERMIT || key == NAME ? 1 : MOST_NUMBER;
        }

        private void nextToken() {
            while (place < length && isBlank(tape.byteAt(place))) {
                place++;
            }
            start = place;
            if (place >= length) {
                kind = END;
                return;
            }
            int first = tape.byteAt(place);
            if (isLetter(first)) {
                takeWord();
            } else if (isDigit(first)) {
                takeNumber();
            } else {
                kind = first == ';' ? SEMICOLON : NO_TOKEN;
                place++;
            }
        }

        private void takeWord() {
            while (place < length && isLetter(tape.byteAt(place))) {
                place++;
            }
            kind = NO_TOKEN;
            for (int word = 0; word < WORDS; word++) {
                if (isToken(spelling(word))) {
                    kind = WORD;
                    value = word;
                }
            }
        }

        private void takeNumber() {
            kind = NUMBER;
            value = 0;
            while (place < length && isDigit(tape.byteAt(place))) {
                // Digits behind one too many would overflow, and can't make the number right again.
                if (value <= MOST_NUMBER) {
                    value = value * 10 + tape.byteAt(place) - '0';
                }
                place++;
            }
        }

        private boolean isToken(String word) {
            if (place - start != word.length()) {
                return false;
            }
            for (int i = 0; i < word.length(); i++) {
                if (tape.byteAt(start + i) != word.charAt(i)) {
                    return false;
                }
            }
            return true;
        }

        private static String spelling(int word) {
            switch (word) {
                case SHORT:
                    return "short";
                case REFUSE:
                    return "refuse";
                case ANSWER:
                    return "answer";
                case PERMIT:
                    return "permit";
                case NAME:
                    return "name";
                default:
                    return "fund";
            }
        }

        private static boolean isBlank(int character) {
            return character == 10 || character == 32;
        }

        private static boolean isLetter(int character) {
            return character >= 'a' && character <= 'z';
        }

        private static boolean isDigit(int character) {
            return character >= '0' && character <= '9';
        }
    }

    /** All texts voted, the undone ones too: what was known on an earlier day is still asked for. */
    private static final class Rules {
        private final int[] from = new int[MOST_TEXTS];
        private final int[] voted = new int[MOST_TEXTS];
        private final int[] undone = new int[MOST_TEXTS];
        private final int[] says = new int[MOST_TEXTS * KEYS];
        private int texts;
        private int lines;

        private int add(int[] textSays, int textLines, int fromDay, int day) {
            int text = texts;
            System.arraycopy(textSays, 0, says, text * KEYS, KEYS);
            from[text] = fromDay;
            voted[text] = day;
            undone[text] = NONE;
            lines += textLines;
            texts++;
            return text;
        }

        private boolean strike(int text, int day) {
            if (undone[text] != NONE) {
                return false;
            }
            undone[text] = day;
            return true;
        }

        private int said(int key, int day, int known) {
            int latest = NONE;
            for (int text = 0; text < texts; text++) {
                if (says[text * KEYS + key] != NONE && from[text] <= day && isKnown(text, known)
                        && (latest == NONE || from[text] >= from[latest])) {
                    latest = text;
                }
            }
            return latest == NONE ? 0 : says[latest * KEYS + key];
        }

        private boolean isKnown(int text, int known) {
            return voted[text] <= known && (undone[text] == NONE || undone[text] > known);
        }
    }

    /** The workers, their papers and when they are here. */
    private static final class Crew {
        private static final int MINUTE_SCALE = MINUTES + 1;

        private final int[] book = new int[MOST_WORKERS];
        private final int[] signed = new int[MOST_WORKERS];
        private int size;

        private final int[] latestPaper = new int[MOST_WORKERS * SKILLS];
        private final int[] paperBefore = new int[MOST_PAPERS];
        private final int[] paperLast = new int[MOST_PAPERS];
        private final int[] paperTold = new int[MOST_PAPERS];
        private int papers;

        // From and to in one number, the largest row of an object; 0 has no minute in it.
        private final int[] minutesHere = new int[MOST_WORKERS * DAYS];
        private int heres;

        private Crew() {
            Arrays.fill(latestPaper, NONE);
        }

        private int add(int workerBook, int day) {
            int worker = size;
            book[worker] = workerBook;
            signed[worker] = day;
            size++;
            return worker;
        }

        private void addPaper(int worker, int skill, int last, int day) {
            int kind = worker * SKILLS + skill;
            paperBefore[papers] = latestPaper[kind];
            paperLast[papers] = last;
            paperTold[papers] = day;
            latestPaper[kind] = papers;
            papers++;
        }

        // Papers told behind the day are passed over, as a morning worked anew must not see them.
        private boolean hasPaper(int worker, int skill, int day) {
            int paper = latestPaper[worker * SKILLS + skill];
            for (int i = 0; i < papers && paper != NONE; i++) {
                if (paperTold[paper] <= day) {
                    return paperLast[paper] >= day;
                }
                paper = paperBefore[paper];
            }
            return false;
        }

        // Nothing is told of a day that is over, so the latest telling is all a morning needs.
        private void addHere(int worker, int day, int from, int to) {
            minutesHere[worker * DAYS + day] = from * MINUTE_SCALE + to;
            heres++;
        }

        private boolean isHere(int worker, int day, int minute) {
            int told = minutesHere[worker * DAYS + day];
            return minute >= told / MINUTE_SCALE && minute < told % MINUTE_SCALE;
        }
    }

    /** The calls and who was told to refuse them. */
    private static final class Calls {
        private final int[] skill = new int[MOST_CALLS];
        private final int[] days = new int[MOST_CALLS];
        private final int[] wanted = new int[MOST_CALLS];
        private final int[] named = new int[MOST_CALLS];
        private final int[] minute = new int[MOST_CALLS];
        private final int[] day = new int[MOST_CALLS];
        private final int[] refusers = new int[MOST_CALLS];
        private final int[] order = new int[MOST_CALLS];
        private int size;

        private int add(int callSkill, int jobDays, int callWanted, int name, int callMinute, int callDay) {
            int call = size;
            skill[call] = callSkill;
            days[call] = jobDays;
            wanted[call] = callWanted;
            named[call] = name;
            minute[call] = callMinute;
            day[call] = callDay;
            enterOrder(call);
            size++;
            return call;
        }

        // Kept in the order in which mornings work them, so that no morning has to sort.
        private void enterOrder(int call) {
            int at = call;
            while (at > 0 && comesAhead(call, order[at - 1])) {
                order[at] = order[at - 1];
                at--;
            }
            order[at] = call;
        }

        private boolean comesAhead(int call, int earlier) {
            return day[earlier] == day[call] && minute[earlier] > minute[call];
        }

        private boolean addRefusal(int call, int worker) {
            if (refuses(call, worker)) {
                return false;
            }
            refusers[call] |= 1 << worker;
            return true;
        }

        private boolean refuses(int call, int worker) {
            return (refusers[call] >> worker & 1) == 1;
        }
    }

    /** The lists and jobs as the mornings worked on this floor left them, and what was noted of each call. */
    private static final class Floor {
        private static final int NOTE_SCALE = 8;

        private final Rules rules;
        private final Crew crew;
        private final Calls calls;

        private final int[] lists = new int[BOOKS * MOST_WORKERS];
        private final int[] listSize = new int[BOOKS];
        private final int[] job = new int[MOST_WORKERS];
        private final int[] jobLast = new int[MOST_WORKERS];
        private final int[] refusals = new int[MOST_WORKERS];
        private final int[] notes = new int[MOST_CALLS * MOST_WORKERS];
        private final int[] laws = new int[FUND];
        private final int[] line = new int[MOST_WORKERS];
        private int lineSize;
        private int clock;
        private int callsDone;
        private int sentInAll;

        private Floor(Rules rules, Crew crew, Calls calls) {
            this.rules = rules;
            this.crew = crew;
            this.calls = calls;
            Arrays.fill(job, NONE);
        }

        private void clear() {
            Arrays.fill(listSize, 0);
            Arrays.fill(job, NONE);
            Arrays.fill(refusals, 0);
            Arrays.fill(notes, 0);
            callsDone = 0;
            sentInAll = 0;
        }

        private int work(int day, int known) {
            for (int key = 0; key < laws.length; key++) {
                laws[key] = rules.said(key, day, known);
            }
            bringBack(day);
            signOn(day);
            int sentBefore = sentInAll;
            for (int i = callsDone; i < calls.size && calls.day[calls.order[i]] == day; i++) {
                workCall(calls.order[i], day);
                callsDone++;
            }
            return sentInAll - sentBefore;
        }

        private void bringBack(int day) {
            for (int worker = 0; worker < crew.size; worker++) {
                if (job[worker] != NONE && jobLast[worker] < day) {
                    boolean wasLong = calls.days[job[worker]] > laws[SHORT];
                    job[worker] = NONE;
                    if (wasLong) {
                        moveToEnd(worker);
                    }
                }
            }
        }

        private void signOn(int day) {
            for (int worker = 0; worker < crew.size; worker++) {
                if (crew.signed[worker] == day) {
                    int book = crew.book[worker];
                    lists[book * MOST_WORKERS + listSize[book]] = worker;
                    listSize[book]++;
                }
            }
        }

        private void moveToEnd(int worker) {
            int book = crew.book[worker];
            int end = book * MOST_WORKERS + listSize[book];
            boolean isPast = false;
            for (int at = book * MOST_WORKERS; at < end; at++) {
                if (isPast) {
                    lists[at - 1] = lists[at];
                }
                isPast = isPast || lists[at] == worker;
            }
            if (isPast) {
                lists[end - 1] = worker;
            }
        }

        private void workCall(int call, int day) {
            for (int worker = 0; worker < crew.size; worker++) {
                if (crew.signed[worker] <= day) {
                    notes[call * MOST_WORKERS + worker] = NOT_COME_TO;
                }
            }
            lineUp(call);
            clock = calls.minute[call];
            int missing = calls.wanted[call];
            for (int i = 0; i < lineSize && missing > 0; i++) {
                if (ask(call, line[i], day) == SENT) {
                    missing--;
                }
            }
        }

        // Lined up ahead of the asking, since refusals change the lists under it.
        private void lineUp(int call) {
            lineSize = 0;
            int first = laws[NAME] == 1 ? calls.named[call] : NONE;
            int booksAsked = laws[PERMIT] == 1 ? BOOKS : BOOKS - 1;
            if (first != NONE && crew.book[first] < booksAsked) {
                joinLine(first);
            }
            for (int book = 0; book < booksAsked; book++) {
                for (int k = 0; k < listSize[book]; k++) {
                    int worker = lists[book * MOST_WORKERS + k];
                    if (worker != first) {
                        joinLine(worker);
                    }
                }
            }
        }

        private void joinLine(int worker) {
            if (lineSize < line.length) {
                line[lineSize] = worker;
                lineSize++;
            }
        }

        private int ask(int call, int worker, int day) {
            int outcome = outcomeFor(call, worker, day);
            notes[call * MOST_WORKERS + worker] = clock * NOTE_SCALE + outcome;
            if (outcome == REFUSED) {
                takeRefusal(worker);
            } else if (outcome == SENT) {
                send(call, worker, day);
            }
            return outcome;
        }

        private int outcomeFor(int call, int worker, int day) {
            if (job[worker] != NONE) {
                return ON_A_JOB;
            }
            if (!crew.hasPaper(worker, calls.skill[call], day)) {
                return NO_PAPER;
            }
            if (!crew.isHere(worker, day, clock)) {
                return NOT_HERE;
            }
            return calls.refuses(call, worker) ? REFUSED : SENT;
        }

        private void takeRefusal(int worker) {
            refusals[worker]++;
            if (laws[REFUSE] > 0 && refusals[worker] >= laws[REFUSE]) {
                moveToEnd(worker);
                refusals[worker] = 0;
            }
            clock += laws[ANSWER];
        }

        private void send(int call, int worker, int day) {
            job[worker] = call;
            jobLast[worker] = day + calls.days[call] - 1;
            refusals[worker] = 0;
            sentInAll++;
        }

        private int outcomeNoted(int call, int worker) {
            return notes[call * MOST_WORKERS + worker] % NOTE_SCALE;
        }

        private int clockNoted(int call, int worker) {
            int outcome = outcomeNoted(call, worker);
            boolean wasAsked = outcome != NOT_SIGNED && outcome != NOT_COME_TO;
            return wasAsked ? notes[call * MOST_WORKERS + worker] / NOTE_SCALE : NONE;
        }

        private boolean wasSent(int call, int worker) {
            return outcomeNoted(call, worker) == SENT;
        }

        private int freeOnList(int book, int k) {
            int left = k;
            for (int i = 0; i < listSize[book]; i++) {
                int worker = lists[book * MOST_WORKERS + i];
                if (job[worker] == NONE) {
                    if (left == 0) {
                        return worker;
                    }
                    left--;
                }
            }
            return NONE;
        }
    }

    /** The hours told, each with the day it was told on. */
    private static final class Sheet {
        private final Rules rules;
        private final int[] worker = new int[MOST_HOURS_TOLD];
        private final int[] day = new int[MOST_HOURS_TOLD];
        private final int[] hours = new int[MOST_HOURS_TOLD];
        private final int[] told = new int[MOST_HOURS_TOLD];
        private final int[] dayTaken = new int[DAYS];
        private int size;

        private Sheet(Rules rules) {
            this.rules = rules;
        }

        private void add(int who, int workDay, int worked, int toldDay) {
            worker[size] = who;
            day[size] = workDay;
            hours[size] = worked;
            told[size] = toldDay;
            size++;
        }

        // From the latest telling back, so that the first one met for a day is the one that counts.
        private int sum(int who, int fund, int known) {
            Arrays.fill(dayTaken, 0);
            int total = 0;
            for (int i = size - 1; i >= 0; i--) {
                if (worker[i] == who && told[i] <= known && dayTaken[day[i]] == 0) {
                    dayTaken[day[i]] = 1;
                    total += hours[i] * rules.said(FUND + fund, day[i], known);
                }
            }
            return total;
        }
    }
}
