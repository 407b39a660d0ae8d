/** The boundaries that Terms 1 names, but for those of FAULTS. */
final class Terms1Edges {
    private static final int[] OUTSIDE_DAYS = {-1, 100, Integer.MIN_VALUE, Integer.MAX_VALUE};

    static void run(Check check) {
        terms1_days0To99(check);
        terms1_today0AtFirst(check);
        terms1_minutes0To599(check);
        terms1_textsAtMost10(check);
        terms1_inForceFromADay(check);
        terms1_knownFromTheVote(check);
        terms1_undoneKnownFromThatDay(check);
        terms1_textOfLines(check);
        terms1_number0To999(check);
        terms1_fundK0To2(check);
        terms1_blanks10And32(check);
        terms1_latestFromCounts(check);
        terms1_ofSeveralTheLatestVote(check);
        terms1_withoutAny0(check);
    }

    private static void terms1_days0To99(Check check) {
        check.words("Terms 1", "DAYS 0 .. 99");
        HiringHall hall = new HiringHall();
        hall.worker(0);
        for (int day = 0; day <= 99; day += 99) {
            check.due("vote(0, " + day + ")", hall.vote(0, day), day / 99);
            check.due("law(0, " + day + ", 0)", hall.law(0, day, 0), 0);
            check.yes("paper(0, 0, " + day + ")", hall.paper(0, 0, day));
            check.yes("here(0, " + day + ", 0, 600)", hall.here(0, day, 0, 600));
        }
        for (int day : OUTSIDE_DAYS) {
            check.due("vote(0, " + day + ")", hall.vote(0, day), -2);
            check.none("law(0, " + day + ", 0)", hall.law(0, day, 0));
            check.no("paper(0, 0, " + day + ")", hall.paper(0, 0, day));
            check.no("here(0, " + day + ", 0, 600)", hall.here(0, day, 0, 600));
        }
        Check.mornings(hall, 99);
        check.due("the last DAY", hall.count(0), 99);
        check.yes("hours of the first DAY", hall.hours(0, 0, 1));
        check.yes("hours of the last DAY", hall.hours(0, 99, 1));
        check.due("bank as KNOWN on the last DAY", hall.bank(0, 0, 99), 0);
        check.due("anew to the last DAY", hall.anew(99, 99), 0);
        check.due("law as KNOWN on the last DAY", hall.law(0, 99, 99), 0);
        for (int day : OUTSIDE_DAYS) {
            check.no("hours of DAY " + day, hall.hours(0, day, 1));
            check.none("bank as KNOWN on " + day, hall.bank(0, 0, day));
            check.none("anew to " + day, hall.anew(day, 0));
            check.none("anew as KNOWN on " + day, hall.anew(0, day));
            check.none("law as KNOWN on " + day, hall.law(0, 0, day));
        }
    }

    private static void terms1_today0AtFirst(Check check) {
        check.words("Terms 1", "TODAY 0 at first");
        HiringHall hall = new HiringHall();
        check.due("count(0)", hall.count(0), 0);
        check.due("known TODAY", hall.law(0, 0, 0), 0);
        check.none("known tomorrow", hall.law(0, 0, 1));
        hall.worker(0);
        check.due("signed on DAY 0", hall.look(0, 1), 0);
    }

    private static void terms1_minutes0To599(Check check) {
        check.words("Terms 1", "a morning has MINUTES 0 .. 599.");
        HiringHall hall = new HiringHall();
        Check.ready(hall, 0, 0, 0);
        Check.ready(hall, 0, 0, 0);
        check.none("a CALL at -1", hall.call(0, 1, 1, -1, -1));
        check.none("a CALL at 600", hall.call(0, 1, 1, -1, 600));
        check.due("a CALL at 599", hall.call(0, 1, 1, -1, 599), 0);
        check.due("a CALL at 0", hall.call(0, 1, 1, -1, 0), 1);
        check.due("both are SENT", hall.morning(), 2);
        check.whys(hall, 1, 5, 0, 6, -1);
        check.whys(hall, 0, 1, 599, 5, 599);
    }

    private static void terms1_textsAtMost10(Check check) {
        check.words("Terms 1", "RULES: TEXTS, at most 10");
        HiringHall hall = new HiringHall();
        for (int text = 0; text < 10; text++) {
            check.due("vote " + text, Check.vote(hall, "short " + (text + 1) + ";", 10 * text), text);
        }
        check.due("vote of an eleventh", Check.vote(hall, "short 99;", 99), -2);
        check.due("TEXTS", hall.count(3), 10);
        for (int text = 0; text < 10; text++) {
            check.due("law of text " + text, hall.law(0, 10 * text + 9, 0), text + 1);
        }
        check.yes("the tenth is undone", hall.undo(9));
        check.no("there is no eleventh to undo", hall.undo(10));
        check.due("an undone one makes no room", hall.vote(0, 0), -2);
    }

    private static void terms1_inForceFromADay(Check check) {
        check.words("Terms 1", "each in force from a told DAY (FROM) on");
        HiringHall hall = new HiringHall();
        Check.vote(hall, "answer 7;", 5);
        Check.vote(hall, "refuse 8;", 0);
        Check.vote(hall, "short 9;", 99);
        check.due("the DAY ahead of FROM", hall.law(2, 4, 0), 0);
        check.due("on FROM", hall.law(2, 5, 0), 7);
        check.due("on the last DAY", hall.law(2, 99, 0), 7);
        check.due("FROM 0 on DAY 0", hall.law(1, 0, 0), 8);
        check.due("FROM 99 on DAY 98", hall.law(0, 98, 0), 0);
        check.due("FROM 99 on DAY 99", hall.law(0, 99, 0), 9);
    }

    private static void terms1_knownFromTheVote(Check check) {
        check.words("Terms 1", "KNOWN from the DAY on which it was voted");
        HiringHall hall = Check.onDay(3);
        Check.vote(hall, "answer 7;", 0);
        check.due("as KNOWN on the DAY ahead of the vote", hall.law(2, 3, 2), 0);
        check.due("as KNOWN on the DAY of the vote", hall.law(2, 3, 3), 7);
        check.due("of a DAY ahead of the vote, as KNOWN then", hall.law(2, 0, 3), 7);
        check.due("as KNOWN on DAY 0", hall.law(2, 99, 0), 0);
        HiringHall last = Check.onDay(99);
        Check.vote(last, "answer 7;", 99);
        check.due("voted on the last DAY, as KNOWN on 98", last.law(2, 99, 98), 0);
        check.due("voted on the last DAY, as KNOWN on 99", last.law(2, 99, 99), 7);
    }

    private static void terms1_undoneKnownFromThatDay(Check check) {
        check.words("Terms 1", "unless it is undone (KNOWN from that DAY on).");
        HiringHall hall = Check.onDay(1);
        Check.vote(hall, "answer 7;", 0);
        Check.vote(hall, "short 9;", 0);
        check.yes("undone on the DAY of its vote", hall.undo(1));
        Check.mornings(hall, 2);
        check.yes("undone two DAYS later", hall.undo(0));
        hall.morning();
        int[] due = {0, 7, 7, 0, 0};
        for (int known = 0; known <= 4; known++) {
            check.due("the first as KNOWN on " + known, hall.law(2, 99, known), due[known]);
            check.due("the second as KNOWN on " + known, hall.law(0, 99, known), 0);
        }
    }

    private static void terms1_textOfLines(Check check) {
        check.words("Terms 1", "TEXT: { LINE ';' }.");
        check.sound("", 0);
        check.sound(" \n", 0);
        check.sound("short 1;", 1);
        check.sound("short 1;refuse 1;", 2);
        check.faulty("short 1", 1, 7);
        check.faulty("short 1;refuse 1", 1, 16);
        check.faulty(";", 1, 0);
        check.faulty("short 1;;", 1, 8);
        check.faulty(";short 1;", 1, 0);
        String full = "fund 2 8;fund 1 7;fund 0 6;name 1;permit 1;answer 3;refuse 2;short 1;";
        check.sound(full, 8);
        check.faulty(full + "answer 3;", 3, full.length());
    }

    private static void terms1_number0To999(Check check) {
        check.words("Terms 1", "LINE: a word and N (digits, 0 .. 999): short, refuse, answer, permit, name;");
        String[] words = {"short", "refuse", "answer", "permit", "name"};
        for (int what = 0; what < words.length; what++) {
            int most = what < 3 ? 999 : 1;
            said(check, words[what] + " 0;", what, 0);
            said(check, words[what] + " 1;", what, 1);
            said(check, words[what] + " " + most + ";", what, most);
            check.faulty(words[what] + " " + (most + 1) + ";", 2, words[what].length() + 1);
            check.faulty(words[what] + ";", 1, words[what].length());
            check.faulty(words[what] + " -0;", 1, words[what].length() + 1);
        }
        said(check, "short 0000000000000999;", 0, 999);
        said(check, "short " + "0".repeat(792) + "7;", 0, 7);
        check.faulty("short " + "9".repeat(793) + ";", 2, 6);
        check.faulty("short " + "0".repeat(789) + "1000;", 2, 6);
        String[] wrapping = {"2147483648", "4294967296", "4294967297", "18446744073709551616", "18446744073709551617"};
        for (String number : wrapping) {
            check.faulty("short " + number + ";", 2, 6);
        }
    }

    private static void said(Check check, String text, int what, int due) {
        HiringHall hall = new HiringHall();
        check.due("vote of '" + text + "'", Check.vote(hall, text, 0), 0);
        check.due("law by '" + text + "'", hall.law(what, 0, 0), due);
    }

    private static void terms1_fundK0To2(Check check) {
        check.words("Terms 1", "fund K N (K 0 .. 2).");
        for (int k = 0; k <= 2; k++) {
            said(check, "fund " + k + " 0;", 5 + k, 0);
            said(check, "fund " + k + " 999;", 5 + k, 999);
            check.faulty("fund " + k + " 1000;", 2, 7);
            check.faulty("fund " + k + ";", 1, 6);
        }
        said(check, "fund 02 5;", 7, 5);
        check.faulty("fund 3 0;", 2, 5);
        check.faulty("fund 4294967296 0;", 2, 5);
    }

    private static void terms1_blanks10And32(Check check) {
        check.words("Terms 1", "Blanks 10, 32.");
        check.sound("\n short\n 5\n ;\n refuse \n6 \n; \n", 2);
        check.sound("short5;fund0 7;", 2);
        check.faulty("sh ort 5;", 1, 0);
        check.faulty("short 5 5;", 1, 8);
        int[] others = {0, 9, 11, 12, 13, 31, 33, 127, 138, 160};
        for (int other : others) {
            check.faulty("short 5" + (char) other + ";", 1, 7);
            check.faulty("short" + (char) other + "5;", 1, 5);
            check.faulty("short 5;" + (char) other, 1, 8);
        }
    }

    private static void terms1_latestFromCounts(Check check) {
        check.words("Terms 1", "On a DAY, as KNOWN on another: of a KEY's LINES in force that with the latest FROM counts");
        HiringHall hall = new HiringHall();
        Check.vote(hall, "short 1;fund 1 1;", 10);
        Check.vote(hall, "short 2;fund 0 2;", 9);
        check.due("on 8", hall.law(0, 8, 0), 0);
        check.due("on 9", hall.law(0, 9, 0), 2);
        check.due("on 10, though voted earlier", hall.law(0, 10, 0), 1);
        check.due("fund 0 is a KEY of its own", hall.law(5, 10, 0), 2);
        check.due("fund 1 is a KEY of its own", hall.law(6, 10, 0), 1);
        hall.morning();
        hall.undo(0);
        check.due("on 10 behind the undoing", hall.law(0, 10, 1), 2);
        check.due("on 10 as KNOWN ahead of it", hall.law(0, 10, 0), 1);
    }

    private static void terms1_ofSeveralTheLatestVote(Check check) {
        check.words("Terms 1", "of several that of the TEXT voted latest");
        HiringHall hall = new HiringHall();
        Check.vote(hall, "short 1;", 4);
        Check.vote(hall, "short 0;", 4);
        check.due("of two of one DAY, a 0 too", hall.law(0, 4, 0), 0);
        hall.morning();
        Check.vote(hall, "short 3;", 4);
        check.due("of three", hall.law(0, 4, 1), 3);
        check.due("as KNOWN ahead of the third", hall.law(0, 4, 0), 0);
        hall.undo(1);
        hall.undo(2);
        check.due("two being undone", hall.law(0, 4, 1), 1);
    }

    private static void terms1_withoutAny0(Check check) {
        check.words("Terms 1", "without any 0.");
        HiringHall hall = new HiringHall();
        for (int what = 0; what < 8; what++) {
            check.due("law(" + what + ") without a TEXT", hall.law(what, 99, 0), 0);
        }
        Check.vote(hall, "short 5;", 1);
        check.due("another KEY", hall.law(1, 1, 0), 0);
        check.due("ahead of FROM", hall.law(0, 0, 0), 0);
        hall.undo(0);
        check.due("all undone", hall.law(0, 1, 0), 0);
    }
}
