/** Promises 30 and 31: image, again. */
public final class ImageTest {
    private static final int NONE = CityChords.NONE;

    public static void main(String[] args) {
        Check c = new Check();
        wrongOnes(c);
        everything(c);
        several(c);
        tapeBytes(c);
        c.close();
    }

    private static void wrongOnes(Check c) {
        CityChords x = new CityChords();
        for (int k : new int[] {-1, 3, -2, Integer.MAX_VALUE, Integer.MIN_VALUE}) {
            c.due("image " + k, x.image(k), false);
            c.due("again " + k, x.again(k), false);
        }
        for (int k = 0; k < 3; k++) {
            c.due("again before " + k, x.again(k), false);
            c.due("image " + k, x.image(k), true);
            c.due("again " + k, x.again(k), true);
        }
    }

    private static void everything(Check c) {
        CityChords x = new CityChords();
        x.image(2);
        Check.tell(x, 0, "size 4 3;wall 1 1;fiddle 0 0;thief 3 2;value tell 9;wind 1;");
        Check.tell(x, 0, "size 2 2;");
        Check.tell(x, 1, "stand 0;march 1 2;");
        Check.tell(x, 2, "voices 2;thieves 1;says 0 1;");
        Check.tell(x, 3, "loud 1 2;");
        Check.tell(x, 3, "quiet 1 2;loud 0 0;");
        Check.tell(x, 0, "size 9 2;", 0);
        Check.put(x, "rest;");
        x.image(0);
        Check.tell(x, 0, "", 0);
        Check.tell(x, 0, "wall 0 0;", 1);
        Check.tell(x, 1, "", 0);
        Check.tell(x, 1, "");
        Check.tell(x, 2, "", 0);
        Check.tell(x, 2, "");
        Check.tell(x, 3, "", 0);
        x.image(1);
        c.due("again 0", x.again(0), true);
        int[][] due = {{0, 4}, {1, 3}, {2, 1}, {3, 1}, {4, 1}, {12, 9}, {20, 0}, {30, 0}, {40, 1}, {50, 11}, {105, 1}, {104, 0}};
        for (int[] pair : due) {
            c.due("city " + pair[0], x.city(0, pair[0]), pair[1]);
        }
        c.due("city 1", x.city(1, 100), 0);
        c.due("city 1 wide", x.city(1, 0), 2);
        c.due("deeds", x.deed(0, NONE, 0), 2);
        c.due("deed", x.deed(0, 1, 2), 2);
        c.due("witnesses", x.trial(0, 0), 2);
        c.due("thieves", x.trial(0, 1), 1);
        c.due("whom", x.trial(0, 50), 1);
        c.due("facts", x.fact(0, NONE, 0), 1);
        c.due("facts 1", x.fact(1, 1, 0), 1);
        c.due("fault", x.fault(0), 2);
        c.due("place", x.fault(1), 5);
        counts(c, x, 2, 1, 1, 2);
        c.due("the tape", x.end(6), NONE);
        c.due("the tape's text", x.text(1, NONE), 1);
        c.due("its deed", x.deed(1, 0, 0), 6);
        c.due("again 1", x.again(1), true);
        counts(c, x, 2, 2, 2, 2);
        c.due("deeds then", x.deed(0, NONE, 0), 0);
        c.due("wall then", x.city(1, 100), 1);
        c.due("fault then", x.fault(0), 0);
        c.due("again 2", x.again(2), true);
        counts(c, x, 0, 0, 0, 0);
        c.due("no city", x.city(0, 0), NONE);
        c.due("images stay", x.again(0), true);
        counts(c, x, 2, 1, 1, 2);
    }

    private static void counts(Check c, CityChords x, int... due) {
        for (int sort = 0; sort < 4; sort++) {
            c.due("count " + sort, x.count(sort), due[sort]);
        }
    }

    private static void several(Check c) {
        CityChords x = new CityChords();
        for (int k = 0; k < 3; k++) {
            Check.tell(x, 0, "size " + (k + 2) + " 2;", k == 0 ? NONE : 0);
            x.image(k);
        }
        for (int k = 2; k >= 0; k--) {
            x.again(k);
            c.due("wide of image " + k, x.city(0, 0), k + 2);
        }
        // An image is not changed by what is told after it was taken or called back.
        Check.tell(x, 0, "size 8 8;fiddle 7 7;", 0);
        x.again(0);
        c.due("wide still", x.city(0, 0), 2);
        Check.tell(x, 0, "size 8 8;", 0);
        x.image(0);
        x.again(1);
        x.again(0);
        c.due("a later image strikes", x.city(0, 0), 8);
    }

    private static void tapeBytes(Check c) {
        CityChords x = new CityChords();
        Check.put(x, "stand 1;");
        x.image(0);
        Check.put(x, "tell 0;rest;");
        x.image(1);
        x.again(0);
        c.due("text", x.text(1, NONE), 0);
        c.due("deed", x.deed(0, 0, 1), 1);
        x.again(0);
        c.due("no night", x.count(1), 0);
        x.again(1);
        x.text(1, NONE);
        c.due("deeds", x.deed(0, NONE, 0), 2);
        c.due("the first", x.deed(0, 0, 0), 2);
    }
}
