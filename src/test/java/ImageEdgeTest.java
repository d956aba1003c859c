/** The bounds of images: promises 30 and 31; nothing told, all told, a full tape, each FAULT. */
public final class ImageEdgeTest {
    private static final int NONE = CityChords.NONE;
    private static final int[] NO_IMAGE = {-1, -2, 3, 4, Integer.MIN_VALUE, Integer.MAX_VALUE};

    public static void main(String[] args) {
        Check c = new Check();
        noneTaken(c);
        noSuchImage(c);
        nothingTold(c);
        allTold(c);
        faults(c);
        tapes(c);
        oneOverAnother(c);
        imagesAreNotTold(c);
        drafts(c);
        c.close();
    }

    /** False without an image, one by one; and all is as it was. */
    private static void noneTaken(Check c) {
        for (int taken = -1; taken <= 1; taken++) {
            String whole = World.seen(World.two());
            CityChords x = World.two();
            if (taken >= 0) {
                c.due("P30 image " + taken, x.image(taken), true);
            }
            for (int k = 0; k <= 2; k++) {
                c.due("P31 again " + k + " with " + taken, x.again(k), k == taken);
                c.due("P31 all is as it was", World.seen(x).equals(whole), true);
            }
            c.due("P31 the tape is as it was", x.end(20), 20);
        }
    }

    private static void noSuchImage(Check c) {
        for (int k : NO_IMAGE) {
            CityChords x = World.one();
            x.image(0);
            x.image(1);
            Check.tell(x, 0, "size 2 2;");
            Check.put(x, World.TAPE);
            String whole = World.whole(x);
            c.due("P30 image " + k, x.image(k), false);
            c.due("P31 again " + k, x.again(k), false);
            c.due("P30 P31 all is as it was behind " + k, World.whole(x).equals(whole), true);
            x.again(0);
            c.due("P30 image 0 is as it was behind " + k, x.count(0), 1);
            x.again(1);
            c.due("P30 image 1 is as it was behind " + k, x.count(0), 1);
        }
    }

    private static void nothingTold(Check c) {
        for (int k = 0; k <= 2; k++) {
            CityChords x = new CityChords();
            c.due("P30 of nothing", x.image(k), true);
            c.due("P31 of nothing, at once", x.again(k), true);
            String empty = World.seen(x);
            for (int sort = 0; sort < 4; sort++) {
                x.text(sort, NONE);
                x.text(sort, NONE);
            }
            Check.tell(x, 0, "?", 0);
            Check.put(x, World.TAPE);
            c.due("P31 of nothing, behind all", x.again(k), true);
            c.due("P31 nothing is told", World.seen(x).equals(empty), true);
            for (int sort = 0; sort < 4; sort++) {
                c.due("P31 none of sort " + sort, x.count(sort), 0);
                c.due("P31 none in place 0 of sort " + sort, x.text(sort, 0), -2);
            }
            c.due("P31 no tape", x.end(1), NONE);
            c.due("P31 the first is 0 then", x.text(0, NONE), 0);
        }
    }

    private static void allTold(Check c) {
        for (int k = 0; k <= 1; k++) {
            String whole = World.whole(World.two());
            CityChords x = World.two();
            c.due("P30 of all", x.image(k), true);
            c.due("P30 changes nothing", World.whole(x).equals(whole), true);
            for (int sort = 0; sort < 4; sort++) {
                for (int at = 0; at < 2; at++) {
                    x.end(0);
                    x.text(sort, at);
                }
            }
            c.due("P4 the city is another one then", x.city(0, 0), 6);
            c.due("P31 of all", x.again(k), true);
            c.due("P31 all is as the image has it", World.whole(x).equals(whole), true);
            c.due("P31 again and again", x.again(k), true);
            c.due("P31 all is still as the image has it", World.whole(x).equals(whole), true);
            c.due("P31 no third comes", Check.tell(x, 0, ""), -2);
        }
    }

    private static void faults(Check c) {
        String[] texts = {"", "?", "wind 9;", "drum 0 0;".repeat(7), "wall 6 0;", "wall 0 0;drum 0 0;"};
        int[] places = {NONE, 0, 5, 54, 9, 18};
        for (int one = 0; one < texts.length; one++) {
            for (int other = 0; other < texts.length; other++) {
                CityChords x = Check.cityOf("");
                Check.tell(x, 0, texts[one], 0);
                x.image(0);
                Check.tell(x, 0, texts[other], 0);
                c.due("P5 behind " + one + " " + other, x.fault(0), other);
                x.again(0);
                c.due("P31 the fault of " + one + " " + other, x.fault(0), one);
                c.due("P31 its place", x.fault(1), places[one]);
            }
        }
        CityChords x = new CityChords();
        Check.tell(x, 0, "?");
        x.image(0);
        x.text(7, 0);
        c.due("P4 -2 is told of without a fault", x.fault(0), 0);
        x.again(0);
        c.due("P31 the fault before", x.fault(0), 1);
    }

    /** Of a tape all bytes, from none to 600. */
    private static void tapes(Check c) {
        for (int length : new int[] {0, 1, 4, 5, 6, 20, 580, 581, 599, 600}) {
            CityChords x = new CityChords();
            String text = (" ".repeat(Math.max(0, length - 5)) + "rest;").substring(0, Math.max(length, 5));
            Check.put(x, text.substring(0, length));
            x.image(1);
            Check.put(x, "#".repeat(600));
            c.due("P31 tape of " + length, x.again(1), true);
            c.due("P31 no byte more than " + length, x.end(length + 1), NONE);
            c.due("P31 as many as " + length, x.end(length), length);
            boolean whole = length >= 5 || length == 0;
            c.due("P31 its text " + length, x.text(1, NONE), whole ? 0 : NONE);
            c.due("P31 its deeds " + length, x.deed(0, NONE, 0), length >= 5 ? 1 : length == 0 ? 0 : -2);
            x.again(1);
            c.due("P31 feed behind " + length, x.feed(0, 0, 0, 0, 0), length <= 580 ? length + 20 : NONE);
            x.again(1);
            c.due("P31 the image has none of it " + length, x.end(length + 1), NONE);
        }
    }

    private static void oneOverAnother(Check c) {
        CityChords x = new CityChords();
        for (int k = 0; k <= 2; k++) {
            for (int wide = 2; wide <= 4; wide++) {
                Check.tell(x, 0, "size " + wide + " " + (k + 2) + ";", x.count(0) == 0 ? NONE : 0);
                c.due("P30 image " + k + " anew", x.image(k), true);
            }
        }
        for (int k : new int[] {0, 2, 1, 1, 0}) {
            c.due("P31 image " + k, x.again(k), true);
            c.due("P31 the latest of image " + k, x.city(0, 0), 4);
            c.due("P31 its own", x.city(0, 1), k + 2);
        }
        // What is as it was can be an image again, of another number.
        x.again(0);
        x.image(2);
        Check.tell(x, 0, "size 8 8;", 0);
        x.again(2);
        c.due("P30 an image of what an image had", x.city(0, 1), 2);
    }

    /** Images are no part of what is told: again() leaves those that were taken later. */
    private static void imagesAreNotTold(Check c) {
        CityChords x = new CityChords();
        x.image(0);
        Check.tell(x, 0, "size 3 3;");
        x.image(1);
        x.again(0);
        c.due("P31 back to nothing", x.count(0), 0);
        c.due("P31 the later image is there", x.again(1), true);
        c.due("P31 and has the city", x.city(0, 0), 3);
        c.due("P31 a third was never taken", x.again(2), false);
    }

    /** A text taken behind again() is the image's no less than another one: cities are not mixed. */
    private static void drafts(Check c) {
        CityChords x = Check.cityOf("size 4 4;wall 0 0;horn 1 1;thief 2 2;value tell 7;wind 0;");
        x.image(0);
        Check.tell(x, 0, "size 5 5;wall 4 4;", 0);
        Check.tell(x, 0, "");
        x.again(0);
        int[][] due = {{0, 4}, {1, 4}, {2, 0}, {3, 1}, {4, 1}, {12, 7}, {20, 3}, {30, 5}, {40, 1}, {50, 10}, {100, 1}, {115, 0}};
        for (int[] pair : due) {
            c.due("P31 city " + pair[0], x.city(0, pair[0]), pair[1]);
        }
        c.due("P31 no second city", x.city(1, 0), NONE);
        c.due("P31 a further one", Check.tell(x, 0, "size 2 2;"), 1);
        x.again(0);
        c.due("P31 the image has it not", x.count(0), 1);
        c.due("P31 nor can be told of it", x.enough(1), NONE);
        c.due("P31 the horn plays", x.enough(0), 1);
    }
}
