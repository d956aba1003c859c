/** The bounds of TRIALS: promises 18 and 19. */
public final class TrialEdgeTest {
    private static final int NONE = CityChords.NONE;
    private static final int MIN = Integer.MIN_VALUE;
    private static final int MAX = Integer.MAX_VALUE;
    private static final int[] NO_INDEX = {-1, -2, -3, 2, 3, 8, MIN, MIN + 1, MAX};

    public static void main(String[] args) {
        Check c = new Check();
        told(c);
        none(c);
        witnessesAndThieves(c);
        kinds(c);
        nothingFits(c);
        ask(c);
        broken(c);
        c.close();
    }

    private static CityChords trialOf(String text) {
        CityChords x = new CityChords();
        if (Check.tell(x, Check.TRIAL, text) != 0) {
            throw new IllegalStateException(text);
        }
        return x;
    }

    private static void all(Check c, String text, int... pairs) {
        CityChords x = trialOf(text);
        for (int k = 0; k < pairs.length; k += 2) {
            c.due("P19 '" + text + "' what " + pairs[k], x.thieves(0, pairs[k]), pairs[k + 1]);
        }
    }

    /** Every what around all that there are: none, one, eleven and twelve SAYINGS. */
    private static void told(Check c) {
        for (int many : new int[] {0, 1, 11, 12}) {
            StringBuilder text = new StringBuilder("voices 8;thieves " + many % 9 + ";");
            for (int k = 0; k < many; k++) {
                text.append(k % 3 == 0 ? "denies " : "says ").append(k % 8).append(' ').append(7 - k % 8).append(';');
            }
            CityChords x = trialOf("");
            Check.tell(x, Check.TRIAL, text.toString());
            for (int what = -25; what <= 100; what++) {
                int k = Math.floorMod(what - 10, 20);
                int due = what == 0 ? 8 : what == 1 ? many % 9 : what == 2 ? many : -2;
                if (what >= 10 && what < 70 && k < many) {
                    due = what < 30 ? k % 3 == 0 ? 0 : 1 : what < 50 ? k % 8 : 7 - k % 8;
                }
                c.due("P18 trial(1, " + what + ") of " + many, x.trial(1, what), due);
            }
            for (int what : new int[] {MIN, MIN + 10, MAX, MAX - 1, -1000, 1000}) {
                c.due("P18 what " + what, x.trial(1, what), -2);
            }
        }
        CityChords x = trialOf("");
        c.due("P18 at first: witnesses", x.trial(0, 0), 4);
        c.due("P18 at first: thieves", x.trial(0, 1), NONE);
        c.due("P18 at first: sayings", x.trial(0, 2), 0);
    }

    private static void none(Check c) {
        CityChords x = trialOf("says 0 1;");
        Check.tell(x, Check.TRIAL, "says 0 1;");
        for (int k : NO_INDEX) {
            for (int what : new int[] {0, 1, 2, 3, 4, 5, 10, 30, 50}) {
                c.due("P18 trial " + k + " what " + what, x.trial(k, what), -2);
                c.due("P19 trial " + k + " what " + what, x.thieves(k, what), -2);
            }
        }
    }

    /** From one WITNESS to eight, from no THIEF to eight, nothing said: all sets of as many. */
    private static void witnessesAndThieves(Check c) {
        for (int voices = 1; voices <= 8; voices++) {
            for (int thieves = -1; thieves <= 8; thieves++) {
                String text = "voices " + voices + ";" + (thieves < 0 ? "" : "thieves " + thieves + ";");
                CityChords x = trialOf(text);
                int everybody = (1 << voices) - 1;
                int many = 0;
                int least = NONE;
                for (int set = 0; set <= everybody; set++) {
                    if (thieves < 0 || Integer.bitCount(set) == thieves) {
                        c.due("P19 " + text + " the " + many, x.thieves(0, 10 + many), set);
                        least = many == 0 ? set : least;
                        many++;
                    }
                }
                c.due("P19 " + text + " how many", x.thieves(0, 0), many);
                for (int what : new int[] {10 + many, 11 + many, 266, 267, 6, 7, 8, 9, -1, -2, -10, MIN, MIN + 10, MAX}) {
                    c.due("P19 " + text + " what " + what, x.thieves(0, what), -2);
                }
                int sure = many == 0 ? NONE : thieves == voices ? everybody : 0;
                int clear = many == 0 ? NONE : thieves == 0 ? everybody : 0;
                c.due("P19 " + text + " sure", x.thieves(0, 1), sure);
                c.due("P19 " + text + " clear", x.thieves(0, 2), clear);
                c.due("P19 " + text + " broken", x.thieves(0, 4), many == 0 ? NONE : 0);
                c.due("P19 " + text + " that set", x.thieves(0, 5), least);
                c.due("P19 " + text + " ask", x.thieves(0, 3) == NONE, many == 0);
            }
        }
    }

    /** What a THIEF says is not so, what another one says is so. */
    private static void kinds(Check c) {
        all(c, "voices 2;says 0 1;", 0, 2, 10, 1, 11, 2, 12, -2, 1, 0, 2, 0, 4, 0, 5, 1);
        all(c, "voices 2;denies 0 1;", 0, 2, 10, 0, 11, 3, 12, -2, 1, 0, 2, 0, 4, 0, 5, 0);
        all(c, "voices 1;denies 0 0;", 0, 2, 10, 0, 11, 1, 12, -2, 4, 0, 5, 0);
        all(c, "voices 1;says 0 0;", 0, 0, 10, -2, 4, 1, 5, 0);
        all(c, "voices 8;thieves 1;says 7 0;denies 7 1;", 0, 1, 10, 1, 11, -2, 1, 1, 2, 254);
        all(c, "voices 8;thieves 1;says 7 0;says 7 1;", 0, 1, 10, 128, 11, -2, 1, 128, 2, 127);
        all(c, "voices 8;thieves 8;denies 7 0;denies 0 7;", 0, 1, 10, 255, 1, 255, 2, 0);
        all(c, "voices 8;thieves 0;denies 7 0;denies 0 7;", 0, 1, 10, 0, 1, 0, 2, 255);
    }

    private static void nothingFits(Check c) {
        for (String text : new String[] {"voices 1;says 0 0;", "voices 8;says 0 1;denies 0 1;", "voices 3;thieves 4;",
            "voices 1;thieves 2;", "voices 7;thieves 8;", "voices 2;thieves 0;says 0 1;"}) {
            boolean tooMany = text.equals("voices 3;thieves 4;") || text.equals("voices 1;thieves 2;") || text.equals("voices 7;thieves 8;");
            CityChords x = trialOf(text);
            c.due("P19 '" + text + "' none fits", x.thieves(0, 0), 0);
            for (int what = 1; what <= 3; what++) {
                c.due("P19 '" + text + "' what " + what, x.thieves(0, what), NONE);
            }
            c.due("P19 '" + text + "' broken", x.thieves(0, 4), tooMany ? NONE : 1);
            c.due("P19 '" + text + "' that set", x.thieves(0, 5), tooMany ? NONE : 0);
            for (int what = 6; what <= 12; what++) {
                c.due("P19 '" + text + "' what " + what, x.thieves(0, what), -2);
            }
        }
        // As many THIEVES as WITNESSES can be, one more can't.
        all(c, "voices 8;thieves 8;", 0, 1, 4, 0, 5, 255);
        all(c, "voices 3;thieves 3;", 0, 1, 4, 0, 5, 7);
    }

    private static void ask(Check c) {
        // The first question that halves; where none does, the least of all.
        all(c, "voices 2;", 3, 1);
        all(c, "voices 1;", 3, 0);
        all(c, "voices 8;", 3, 1);
        all(c, "voices 8;thieves 0;", 3, 0);
        all(c, "voices 2;thieves 1;", 3, 0);
        // One of three is a thief: any two differ in 2 of 3; 0 of 1 is the least.
        all(c, "voices 3;thieves 1;", 3, 1);
        // 0 and 1 are alike, 2 is not known: the first to be asked is 0 of 2.
        all(c, "voices 3;denies 0 1;", 0, 4, 3, 2);
        // All but the last two are alike and known: 6 of 7 is as good as 0 of 7, and more.
        all(c, "voices 8;denies 0 1;denies 1 2;denies 2 3;denies 3 4;denies 4 5;denies 5 6;", 0, 4, 3, 7);
    }

    private static void broken(Check c) {
        // Of 12 SAYINGS all: each WITNESS says of himself that he is one.
        all(c, "voices 4;" + "says 0 0;".repeat(12), 0, 0, 4, 12, 5, 0);
        all(c, "voices 4;thieves 2;" + "says 0 0;".repeat(12), 0, 0, 4, 12, 5, 3);
        all(c, "voices 4;" + "denies 0 0;".repeat(12), 0, 16, 4, 0, 5, 0);
        all(c, "voices 2;" + "says 0 1;".repeat(6) + "denies 0 1;".repeat(6), 0, 0, 4, 6, 5, 0);
        all(c, "voices 2;" + "says 0 1;".repeat(7) + "denies 0 1;".repeat(5), 0, 0, 4, 5, 5, 1);
        all(c, "voices 8;thieves 8;says 0 7;", 0, 0, 4, 1, 5, 255);
        // None would break nothing, but of sets of one each breaks one.
        all(c, "voices 2;thieves 1;denies 0 1;", 0, 0, 4, 1, 5, 1);
        all(c, "voices 3;thieves 1;denies 0 1;denies 1 2;", 0, 0, 4, 1, 5, 1);
        all(c, "voices 3;thieves 2;denies 0 1;denies 1 2;", 0, 0, 4, 1, 5, 3);
    }
}
