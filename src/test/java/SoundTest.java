/** Promises 10, 11, 12, 20, 21, 26, 27: hears, enough, fresh, fact, seen, square, silent, by hand. */
public final class SoundTest {
    private static final int NONE = CityChords.NONE;

    public static void main(String[] args) {
        Check c = new Check();
        hears(c);
        enough(c);
        fresh(c);
        facts(c);
        seen(c);
        squareAndSilent(c);
        c.close();
    }

    private static void hears(Check c) {
        // . 1 .    the wind blows to the right: to the left costs 1 more
        // P # .
        CityChords x = Check.cityOf("size 3 2;wall 1 1;fiddle 0 1;horn 2 0;wind 1;");
        int[] due = {1, 2, 3, 0, 3, 4};
        int[] back = {4, 2, 0, 5, 5, 1};
        for (int cell = 0; cell < 6; cell++) {
            c.due("hears 0 " + cell, x.hears(0, 0, cell), due[cell]);
            c.due("hears 1 " + cell, x.hears(0, 1, cell), back[cell]);
        }
        for (int wind = 0; wind <= 4; wind++) {
            x = Check.cityOf("size 3 3;drum 1 1;wind " + wind + ";");
            c.due("up, wind " + wind, x.hears(0, 0, 1), wind == 2 ? 2 : 1);
            c.due("right, wind " + wind, x.hears(0, 0, 5), wind == 3 ? 2 : 1);
            c.due("down, wind " + wind, x.hears(0, 0, 7), wind == 0 ? 2 : 1);
            c.due("left, wind " + wind, x.hears(0, 0, 3), wind == 1 ? 2 : 1);
        }
        x = Check.cityOf("size 8 8;horn 0 0;wind 0;wall 1 0;wall 0 1;");
        c.due("far", x.hears(0, 0, 63), 23);
        c.due("a wall against the wind", x.hears(0, 0, 8), 4);
        c.due("cell 64", x.hears(0, 0, 64), NONE);
        c.due("cell -1", x.hears(0, 0, -1), NONE);
        c.due("cell max", x.hears(0, 0, Integer.MAX_VALUE), NONE);
        c.due("player 1", x.hears(0, 1, 0), NONE);
        c.due("player -1", x.hears(0, -1, 0), NONE);
        c.due("city 1", x.hears(1, 0, 0), NONE);
    }

    private static void enough(Check c) {
        c.due("nobody", Check.cityOf("").enough(0), 0);
        c.due("one", Check.cityOf("fiddle 3 3;").enough(0), 1);
        c.due("the horn", Check.cityOf("size 5 4;fiddle 0 0;drum 4 3;horn 1 1;").enough(0), 4);
        c.due("the least", Check.cityOf("size 3 3;horn 0 0;horn 1 1;horn 2 2;").enough(0), 1);
        c.due("two", Check.cityOf("size 8 2;flute 0 0;fiddle 0 0;fiddle 7 1;fiddle 1 0;").enough(0), 5);
        c.due("city 1", Check.cityOf("").enough(1), NONE);
        c.due("city -1", Check.cityOf("").enough(-1), NONE);
        // The flute is heard on a WALL alone that the other is not heard on: it is not needed.
        c.due("a wall is no matter", Check.cityOf("size 2 2;wall 1 0;wall 1 1;fiddle 0 0;flute 0 1;").enough(0), 1);
    }

    private static void fresh(Check c) {
        CityChords x = Check.cityOf("size 8 2;");
        // A fiddle in the middle of 8 by 2 is heard at 7 cells of its row and 5 of the other.
        c.due("many", x.fresh(0, 0, 1, 0), 12);
        c.due("first", x.fresh(0, 0, 1, 1), 3);
        c.due("no second", x.fresh(0, 0, 1, 2), NONE);
        c.due("many of 2", x.fresh(0, 0, 2, 0), 16);
        c.due("first of 2", x.fresh(0, 0, 2, 1), 0);
        c.due("second of 2", x.fresh(0, 0, 2, 2), 5);
        c.due("what 3", x.fresh(0, 0, 2, 3), NONE);
        c.due("what -1", x.fresh(0, 0, 2, -1), NONE);
        c.due("n 0", x.fresh(0, 0, 0, 0), NONE);
        c.due("n 3", x.fresh(0, 0, 3, 0), NONE);
        c.due("instrument 4", x.fresh(0, 4, 1, 0), NONE);
        c.due("instrument -1", x.fresh(0, -1, 1, 0), NONE);
        c.due("city 1", x.fresh(1, 0, 1, 0), NONE);
        x = Check.cityOf("size 2 2;wall 0 0;wall 1 0;wall 0 1;");
        c.due("one cell", x.fresh(0, 3, 1, 0), 1);
        c.due("one cell, which", x.fresh(0, 3, 1, 1), 3);
        c.due("not two cells", x.fresh(0, 3, 2, 0), NONE);
        x = Check.cityOf("size 2 2;wall 0 0;wall 1 0;wall 0 1;wall 1 1;");
        c.due("no cell", x.fresh(0, 3, 1, 0), NONE);
        x = Check.cityOf("size 2 2;wall 0 0;horn 1 0;");
        c.due("all heard", x.fresh(0, 3, 2, 0), 0);
        c.due("all heard, first", x.fresh(0, 3, 2, 1), 1);
        c.due("all heard, second", x.fresh(0, 3, 2, 2), 2);
    }

    private static void facts(Check c) {
        CityChords x = new CityChords();
        Check.tell(x, Check.SIGHT, "loud 1 2;quiet 7 0;");
        int[][] due = {{1, 1, 2}, {0, 7, 0}};
        c.due("facts", x.fact(0, NONE, 0), 2);
        c.due("facts 1", x.fact(0, NONE, 1), -2);
        for (int k = 0; k < 2; k++) {
            for (int what = 0; what < 3; what++) {
                c.due("fact " + k + " " + what, x.fact(0, k, what), due[k][what]);
            }
            c.due("fact what 3", x.fact(0, k, 3), -2);
            c.due("fact what -1", x.fact(0, k, -1), -2);
        }
        c.due("fact 2", x.fact(0, 2, 0), -2);
        c.due("fact -2", x.fact(0, -2, 0), -2);
        c.due("sight 1", x.fact(1, NONE, 0), -2);
        c.due("sight -1", x.fact(-1, NONE, 0), -2);
    }

    private static void seen(Check c) {
        // Two fiddles far from one another, a drum between them.
        CityChords x = Check.cityOf("size 8 2;fiddle 0 0;fiddle 7 0;drum 3 0;");
        Check.tell(x, Check.SIGHT, "");
        Check.tell(x, Check.SIGHT, "loud 0 0;quiet 7 0;");
        c.due("all sets", x.seen(0, 0, 0), 8);
        for (int k = 0; k < 8; k++) {
            c.due("set " + k, x.seen(0, 0, 10 + k), k);
        }
        c.due("set 8", x.seen(0, 0, 18), -2);
        c.due("nobody surely", x.seen(0, 0, 1), 0);
        // The two cells in the middle of the lower row are heard by the drum alone.
        c.due("listen", x.seen(0, 0, 2), 11);
        c.due("what 3", x.seen(0, 0, 3), -2);
        c.due("what 9", x.seen(0, 0, 9), -2);
        c.due("what -1", x.seen(0, 0, -1), -2);
        c.due("what max", x.seen(0, 0, Integer.MAX_VALUE), -2);
        c.due("the first alone", x.seen(0, 1, 0), 1);
        c.due("it is 1", x.seen(0, 1, 10), 1);
        c.due("surely 1", x.seen(0, 1, 1), 1);
        c.due("listen anywhere", x.seen(0, 1, 2), 0);
        Check.tell(x, Check.SIGHT, "loud 0 0;quiet 0 0;", 0);
        c.due("nothing", x.seen(0, 0, 0), 0);
        c.due("nothing surely", x.seen(0, 0, 1), NONE);
        c.due("nothing to listen", x.seen(0, 0, 2), NONE);
        c.due("nothing first", x.seen(0, 0, 10), -2);
        Check.tell(x, Check.SIGHT, "loud 0 2;", 0);
        c.due("not there", x.seen(0, 0, 0), -2);
        Check.tell(x, Check.CITY, "size 7 3;");
        c.due("there", x.seen(1, 0, 0), 0);
        c.due("no column 7", x.seen(1, 1, 0), -2);
        c.due("city 2", x.seen(2, 0, 0), -2);
        c.due("sight 2", x.seen(0, 2, 0), -2);
        c.due("sight -1", x.seen(0, -1, 0), -2);
        x = Check.cityOf("");
        Check.tell(x, Check.SIGHT, "quiet 0 0;");
        c.due("no players", x.seen(0, 0, 0), 1);
        c.due("the empty set", x.seen(0, 0, 10), 0);
        c.due("no players surely", x.seen(0, 0, 1), 0);
        c.due("no players listen", x.seen(0, 0, 2), 0);
        // On a WALL alone the two differ in being heard.
        x = Check.cityOf("size 2 2;fiddle 0 0;wall 1 0;wall 0 1;");
        Check.tell(x, Check.SIGHT, "loud 1 0;");
        c.due("a wall hears", x.seen(0, 0, 10), 1);
    }

    private static void squareAndSilent(Check c) {
        CityChords x = Check.cityOf("size 8 2;fiddle 0 0;fiddle 6 0;wall 3 0;citizen 4 1;deaf 7 1;child 2 1;thief 3 1;");
        // Below the WALL neither is heard: 4 steps from the one, 4 from the other.
        c.due("square", x.square(0, false), 0);
        c.due("square many", x.square(0, true), 1);
        c.due("silent", x.silent(0), 8);
        x = Check.cityOf("size 8 2;flute 0 0;flute 6 0;wall 3 0;citizen 4 1;thief 7 1;");
        c.due("square 2", x.square(0, false), 11);
        c.due("square 2 many", x.square(0, true), 2);
        c.due("silent 2", x.silent(0), 0);
        x = Check.cityOf("size 5 2;fiddle 1 0;fiddle 3 0;wall 2 0;wall 2 1;");
        c.due("a wall is the square", x.square(0, false), 2);
        x = Check.cityOf("deaf 1 1;child 5 5;");
        c.due("no players", x.square(0, false), 0);
        c.due("no players many", x.square(0, true), 0);
        c.due("all silent", x.silent(0), 3);
        c.due("nobody silent", Check.cityOf("").silent(0), 0);
        c.due("city 1", x.square(1, true), NONE);
        c.due("city -1", x.square(-1, false), NONE);
        c.due("silent city 1", x.silent(1), NONE);
    }
}
