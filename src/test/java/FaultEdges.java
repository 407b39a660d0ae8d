/** The boundaries that Terms 1 names of FAULTS and their places. */
final class FaultEdges {
    private static final String[] WORDS = {"short", "refuse", "answer", "permit", "name", "fund"};

    static void run(Check check) {
        terms1_theFirstAlongTheText(check);
        terms1_noToken(check);
        terms1_noTokenByEveryByte(check);
        terms1_cannotStandThere(check);
        terms1_theLengthIfMoreMustCome(check);
        terms1_numberAbove999(check);
        terms1_fundAbove2(check);
        terms1_permitOrNameAbove1(check);
        terms1_keyThatTheTextHas(check);
        terms1_behindWhatIsWrongWithin(check);
        terms1_aheadOfASemicolonThatLacks(check);
    }

    private static void terms1_theFirstAlongTheText(Check check) {
        check.words("Terms 1", "FAULTS, the first along the text:");
        check.faulty("short 1000; bogus 1;", 2, 6);
        check.faulty("bogus 1; short 1000;", 1, 0);
        check.faulty("short 1; short 2; name 2;", 3, 9);
        check.faulty("name 2; short 1; short 2;", 2, 5);
        check.faulty("short 1; short 2; bogus", 3, 9);
        check.faulty("short 1; ? short 2;", 1, 9);
        check.faulty("fund 3 1000;", 2, 5);
    }

    private static void terms1_noToken(Check check) {
        check.words("Terms 1", "1 what is no TOKEN (word of small letters that is one of these, N, ;)");
        for (String word : WORDS) {
            String rest = word.equals("fund") ? " 1 1;" : " 1;";
            check.sound(word + rest, 1);
            check.faulty(word.substring(1) + rest, 1, 0);
            check.faulty(word.substring(0, word.length() - 1) + rest, 1, 0);
            check.faulty("x" + word.substring(1) + rest, 1, 0);
            check.faulty(word.substring(0, word.length() - 1) + "x" + rest, 1, 0);
            check.faulty(word + "s" + rest, 1, 0);
            check.faulty(word + word + rest, 1, 0);
            check.faulty(word.toUpperCase() + rest, 1, 0);
            check.faulty(" " + word + "_" + rest, 1, word.length() + 1);
        }
        check.faulty("short 1x;", 1, 7);
        check.faulty("short +1;", 1, 6);
        check.faulty("short 1.0;", 1, 7);
    }

    private static void terms1_noTokenByEveryByte(Check check) {
        check.words("Terms 1", "1 what is no TOKEN (word of small letters that is one of these, N, ;)");
        for (int b = 0; b < 256; b++) {
            char c = (char) b;
            boolean isBlank = b == 10 || b == 32;
            boolean isDigit = c >= '0' && c <= '9';
            boolean isLetter = c >= 'a' && c <= 'z';
            if (isBlank) {
                check.sound("short 1;" + c, 1);
            } else {
                check.faulty("short 1;" + c, 1, 8);
            }
            if (isBlank || isDigit) {
                check.sound("short" + c + "1;", 1);
                check.sound("short 1" + c + ";", 1);
            } else {
                check.faulty("short" + c + "1;", 1, isLetter ? 0 : 5);
                check.faulty("short 1" + c + ";", 1, c == ';' ? 8 : 7);
            }
        }
    }

    private static void terms1_cannotStandThere(Check check) {
        check.words("Terms 1", "or can't stand there");
        String[] aheadOfAWord = {"", "short 1;", "fund 1 1; "};
        String[] aheadOfANumber = {"short ", "fund ", "fund 1 ", "name\n"};
        String[] aheadOfASemicolon = {"short 1 ", "fund 1 1 ", "name 1\n"};
        for (String start : aheadOfAWord) {
            check.faulty(start + "1;", 1, start.length());
            check.faulty(start + "1000;", 1, start.length());
            check.faulty(start + ";", 1, start.length());
        }
        for (String start : aheadOfANumber) {
            check.faulty(start + "answer;", 1, start.length());
            check.faulty(start + ";", 1, start.length());
        }
        for (String start : aheadOfASemicolon) {
            check.faulty(start + "answer 1;", 1, start.length());
            check.faulty(start + "1;", 1, start.length());
            check.faulty(start + "1000;", 1, start.length());
        }
    }

    private static void terms1_theLengthIfMoreMustCome(Check check) {
        check.words("Terms 1", "(the length, if more must come).");
        String[] cut = {"short", "short ", "short 1", "short 1 \n", "fund", "fund 1", "fund 1 ", "fund 1 1", "fund 1 1  ",
            "short 1;refuse", "short 1;refuse 1"};
        for (String text : cut) {
            check.faulty(text, 1, text.length());
        }
        String tape = "short  12  ;  fund  1  23  ;  ";
        for (int n = 0; n <= tape.length(); n++) {
            HiringHall hall = new HiringHall();
            Check.feed(hall, tape);
            boolean isSound = n == 0 || n >= 12 && n <= 14 || n >= 28;
            boolean isWordCut = n < 5 || n > 14 && n < 18;
            check.due("the first " + n + " bytes of the TAPE", hall.vote(n, 0), isSound ? 0 : -1);
            check.due("the place, the rest of the TAPE being no matter", hall.fault(1),
                    isSound ? -1 : !isWordCut ? n : n < 5 ? 0 : 14);
        }
        check.faulty("short 1" + " ".repeat(793), 1, 800);
        check.sound("short 1" + " ".repeat(792) + ";", 1);
    }

    private static void terms1_numberAbove999(Check check) {
        check.words("Terms 1", "2 an N above 999");
        check.sound("short 999;", 1);
        check.faulty("short 1000;", 2, 6);
        check.faulty("short   1000;", 2, 8);
        check.faulty("short 1000", 2, 6);
        check.faulty("short1000;", 2, 5);
        check.sound("fund 0 999;", 1);
        check.faulty("fund 0 1000;", 2, 7);
    }

    private static void terms1_fundAbove2(Check check) {
        check.words("Terms 1", "a K above 2");
        check.sound("fund 2 1;", 1);
        check.faulty("fund 3 1;", 2, 5);
        check.faulty("fund 3", 2, 5);
        check.faulty("fund 3;", 2, 5);
        check.faulty("fund 10 1;", 2, 5);
        check.faulty("fund 1000 1;", 2, 5);
    }

    private static void terms1_permitOrNameAbove1(Check check) {
        check.words("Terms 1", "permit or name above 1 (at the number).");
        check.sound("permit 1;name 1;", 2);
        check.sound("permit 0;name 0;", 2);
        check.faulty("permit 2;", 2, 7);
        check.faulty("permit\n\n2;", 2, 8);
        check.faulty("name 2;", 2, 5);
        check.faulty("name 1000;", 2, 5);
        check.sound("refuse 2;answer 2;short 2;fund 0 2;", 4);
    }

    private static void terms1_keyThatTheTextHas(Check check) {
        check.words("Terms 1", "3 a LINE of a KEY (the word; of fund K, too) that the text has (at the word");
        for (String word : WORDS) {
            String line = word.equals("fund") ? "fund 1 1;" : word + " 1;";
            check.faulty(line + line, 3, line.length());
            check.faulty(line + "\n " + line, 3, line.length() + 2);
        }
        check.sound("fund 0 1;fund 1 1;fund 2 1;", 3);
        check.faulty("fund 0 1;fund 1 1;fund 00 1;", 3, 18);
        check.faulty("short 0;short 0;", 3, 8);
        HiringHall hall = new HiringHall();
        Check.vote(hall, "short 1;", 0);
        check.due("another TEXT may have the KEY", Check.vote(hall, "short 2;", 0), 1);
    }

    private static void terms1_behindWhatIsWrongWithin(Check check) {
        check.words("Terms 1", "behind what is wrong within it");
        check.faulty("short 1;short 1000;", 2, 14);
        check.faulty("short 1;short ;", 1, 14);
        check.faulty("short 1;short", 1, 13);
        check.faulty("short 1;short ?", 1, 14);
        check.faulty("name 1;name 2;", 2, 12);
        check.faulty("fund 1 1;fund 3 1;", 2, 14);
        check.faulty("fund 1 1;fund 1 1000;", 2, 16);
        check.faulty("fund 1 1;fund 1;", 1, 15);
        check.faulty("fund 1 1;fund 1", 1, 15);
    }

    private static void terms1_aheadOfASemicolonThatLacks(Check check) {
        check.words("Terms 1", "ahead of a ; that lacks).");
        check.faulty("short 1;short 1", 3, 8);
        check.faulty("short 1;short 1 ", 3, 8);
        check.faulty("short 1;short 1?", 3, 8);
        check.faulty("short 1;short 1 2;", 3, 8);
        check.faulty("fund 1 1;fund 1 1", 3, 9);
        check.faulty("fund 1 1;fund 1 1 short", 3, 9);
    }
}
