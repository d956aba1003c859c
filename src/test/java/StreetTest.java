/** Promises 23, 24, 25, 28: steps, blocks, cordon, round, by hand. */
public final class StreetTest {
    private static final int NONE = CityChords.NONE;

    public static void main(String[] args) {
        Check c = new Check();
        steps(c);
        blocks(c);
        cordon(c);
        round(c);
        c.close();
    }

    private static void steps(Check c) {
        // . # .
        // . # .
        // . . .   # in the last column below
        CityChords x = Check.cityOf("size 3 4;wall 1 0;wall 1 1;wall 0 3;wall 1 3;wall 2 3;");
        c.due("round the wall", x.steps(0, 0, 2), 6);
        c.due("back", x.steps(0, 2, 0), 6);
        c.due("none", x.steps(0, 8, 8), 0);
        c.due("one", x.steps(0, 0, 3), 1);
        c.due("not over the edge", x.steps(0, 5, 6), 3);
        c.due("from a wall", x.steps(0, 1, 0), NONE);
        c.due("to a wall", x.steps(0, 0, 1), NONE);
        c.due("in a wall", x.steps(0, 1, 1), NONE);
        c.due("cell 12", x.steps(0, 0, 12), NONE);
        c.due("cell -1", x.steps(0, -1, 0), NONE);
        c.due("city 1", x.steps(1, 0, 0), NONE);
        x = Check.cityOf("size 8 8;");
        c.due("across", x.steps(0, 0, 63), 14);
        x = Check.cityOf("size 8 2;wall 3 0;wall 3 1;");
        c.due("never", x.steps(0, 0, 7), NONE);
        // The longest way there is: a snake through 8 by 8.
        c.due("a snake", Check.cityOf(World.snake()).steps(0, 0, 56), 35);
    }

    private static void blocks(Check c) {
        CityChords x = Check.cityOf("");
        c.due("one", x.blocks(0, false), 1);
        c.due("all", x.blocks(0, true), 36);
        x = Check.cityOf("size 3 3;wall 1 0;wall 0 1;wall 2 1;wall 1 2;");
        c.due("five", x.blocks(0, false), 5);
        c.due("single", x.blocks(0, true), 1);
        x = Check.cityOf("size 2 2;wall 0 0;wall 1 0;wall 0 1;wall 1 1;");
        c.due("no cells", x.blocks(0, false), 0);
        c.due("no largest", x.blocks(0, true), 0);
        x = Check.cityOf("size 8 2;wall 2 0;wall 2 1;");
        c.due("two", x.blocks(0, false), 2);
        c.due("the larger", x.blocks(0, true), 10);
        c.due("city 1", x.blocks(1, false), NONE);
        c.due("city -1", x.blocks(-1, true), NONE);
    }

    private static void cordon(Check c) {
        CityChords x = Check.cityOf("size 5 5;fiddle 2 2;");
        c.due("corners", x.cordon(0, 0, 24), 2);
        c.due("corner and middle", x.cordon(0, 0, 12), 2);
        c.due("middle and edge", x.cordon(0, 12, 4), 2);
        c.due("side and side", x.cordon(0, 10, 14), 3);
        c.due("two in the middle", x.cordon(0, 6, 8), 4);
        c.due("across", x.cordon(0, 6, 18), 4);
        c.due("next", x.cordon(0, 12, 13), NONE);
        c.due("below", x.cordon(0, 12, 17), NONE);
        c.due("one", x.cordon(0, 12, 12), NONE);
        c.due("cell 25", x.cordon(0, 0, 25), NONE);
        c.due("cell -1", x.cordon(0, -1, 5), NONE);
        c.due("city 1", x.cordon(1, 0, 24), NONE);
        x = Check.cityOf("size 3 3;wall 1 0;wall 1 2;");
        c.due("a gate", x.cordon(0, 0, 2), 1);
        c.due("a wall", x.cordon(0, 1, 8), NONE);
        c.due("to a wall", x.cordon(0, 8, 1), NONE);
        x = Check.cityOf("size 3 3;wall 1 0;wall 1 1;wall 1 2;");
        c.due("already", x.cordon(0, 0, 2), 0);
        // Cells at the end of one row and the beginning of the next are not next to one another.
        c.due("rows", Check.cityOf("size 3 3;").cordon(0, 2, 3), 2);
    }

    private static void round(Check c) {
        CityChords x = Check.cityOf("size 8 2;fiddle 3 0;citizen 0 0;thief 7 0;");
        c.due("the nearer end first", x.round(0, 0), 10);
        x = Check.cityOf("size 8 2;fiddle 3 0;drum 0 1;");
        c.due("nobody", x.round(0, 0), 0);
        c.due("nobody for another", x.round(0, 1), 0);
        c.due("no player", x.round(0, 2), NONE);
        c.due("player -1", x.round(0, -1), NONE);
        c.due("city 1", x.round(1, 0), NONE);
        x = Check.cityOf("size 3 2;fiddle 0 0;child 0 0;deaf 2 0;wall 1 0;wall 1 1;");
        c.due("never", x.round(0, 0), NONE);
        x = Check.cityOf("size 8 8;horn 0 0;deaf 0 7;deaf 7 7;deaf 7 0;deaf 0 0;deaf 3 7;deaf 7 5;");
        c.due("three sides", x.round(0, 0), 21);
        x = Check.cityOf("size 2 2;horn 0 0;deaf 0 0;deaf 0 0;");
        c.due("at him", x.round(0, 0), 0);
    }
}
