/** Promises 18 and 19: trial, thieves, by hand. */
public final class TrialTest {
    private static final int NONE = CityChords.NONE;

    public static void main(String[] args) {
        Check c = new Check();
        told(c);
        judged(c);
        numbersOfThieves(c);
        broken(c);
        c.close();
    }

    private static CityChords trialOf(String text) {
        CityChords x = new CityChords();
        if (Check.tell(x, Check.TRIAL, text) != 0) {
            throw new IllegalStateException(text);
        }
        return x;
    }

    private static void all(Check c, CityChords x, int... pairs) {
        for (int k = 0; k < pairs.length; k += 2) {
            c.due("thieves(0, " + pairs[k] + ")", x.thieves(0, pairs[k]), pairs[k + 1]);
        }
    }

    private static void told(Check c) {
        CityChords x = trialOf("");
        int[] plain = {4, NONE, 0, -2, -2, -2, -2, -2, -2, -2, -2};
        for (int what = 0; what <= 10; what++) {
            c.due("trial what " + what, x.trial(0, what), plain[what]);
        }
        x = trialOf("voices 3;voices 7;says 0 6;thieves 2;denies 5 1;thieves 0;");
        c.due("witnesses", x.trial(0, 0), 7);
        c.due("thieves", x.trial(0, 1), 0);
        c.due("sayings", x.trial(0, 2), 2);
        int[][] due = {{10, 1}, {30, 0}, {50, 6}, {11, 0}, {31, 5}, {51, 1}, {12, -2}, {32, -2}, {52, -2}, {29, -2},
            {9, -2}, {49, -2}, {69, -2}, {70, -2}, {71, -2}, {3, -2}, {-1, -2}, {-10, -2}, {Integer.MAX_VALUE, -2}};
        for (int[] pair : due) {
            c.due("trial what " + pair[0], x.trial(0, pair[0]), pair[1]);
        }
        c.due("trial 1", x.trial(1, 0), -2);
        c.due("trial -1", x.trial(-1, 0), -2);
        c.due("thieves of trial 1", x.thieves(1, 0), -2);
        c.due("thieves of trial -1", x.thieves(-1, 4), -2);
        x = trialOf("says 0 1;".repeat(12));
        c.due("the last saying", x.trial(0, 21), 1);
        c.due("behind it", x.trial(0, 22), -2);
    }

    private static void judged(Check c) {
        // 0 says that 1 is a thief: one of the two is. 2 denies that 2 is one: nothing is known by that.
        CityChords x = trialOf("voices 3;says 0 1;denies 2 2;");
        all(c, x, 0, 4, 1, 0, 2, 0, 10, 1, 11, 2, 12, 5, 13, 6, 14, -2, 3, 2, 4, 0, 5, 1);
        all(c, x, 6, -2, 9, -2, -1, -2, Integer.MAX_VALUE, -2, Integer.MIN_VALUE, -2);
        // One who says of himself that he is a thief: nothing fits.
        x = trialOf("voices 2;says 1 1;");
        all(c, x, 0, 0, 1, NONE, 2, NONE, 3, NONE, 4, 1, 5, 0, 10, -2);
        // 0 says of 2 that he is one, 1 denies it: either 2 is one, and 1, or 0 alone is. No question tells these apart.
        x = trialOf("voices 3;says 0 2;denies 1 2;");
        all(c, x, 0, 2, 10, 1, 11, 6, 1, 0, 2, 0, 3, 0);
        x = trialOf("voices 2;thieves 1;says 0 1;");
        all(c, x, 0, 2, 10, 1, 11, 2, 3, 0, 1, 0, 2, 0);
        x = trialOf("voices 2;denies 0 1;thieves 2;");
        all(c, x, 0, 1, 10, 3, 1, 3, 2, 0, 3, 0, 4, 0, 5, 3);
        x = trialOf("voices 1;");
        all(c, x, 0, 2, 10, 0, 11, 1, 3, 0, 1, 0, 2, 0);
        x = trialOf("voices 8;");
        all(c, x, 0, 256, 10, 0, 265, 255, 266, -2, 3, 1);
        x = trialOf("voices 8;thieves 0;");
        all(c, x, 0, 1, 10, 0, 1, 0, 2, 255, 3, 0);
    }

    private static void numbersOfThieves(Check c) {
        CityChords x = trialOf("voices 4;thieves 4;");
        all(c, x, 0, 1, 10, 15, 1, 15, 2, 0, 4, 0, 5, 15);
        x = trialOf("voices 4;thieves 5;");
        all(c, x, 0, 0, 1, NONE, 2, NONE, 3, NONE, 4, NONE, 5, NONE, 10, -2);
        x = trialOf("voices 4;thieves 2;");
        all(c, x, 0, 6, 10, 3, 15, 12, 16, -2, 1, 0, 2, 0);
    }

    private static void broken(Check c) {
        // 0 is called a thief by 1 and by 2, and says so of both.
        CityChords x = trialOf("voices 3;says 1 0;says 2 0;says 0 1;denies 0 2;");
        all(c, x, 0, 0, 4, 1, 5, 1);
        x = trialOf("voices 2;thieves 0;says 0 1;says 1 0;denies 0 1;");
        all(c, x, 0, 0, 4, 2, 5, 0);
        x = trialOf("voices 3;thieves 1;says 0 1;says 0 2;");
        all(c, x, 0, 1, 10, 1, 4, 0, 5, 1);
    }
}
