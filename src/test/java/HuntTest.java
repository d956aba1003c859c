/** Promises 13, 14, 15: gather, chase, programme, by hand. */
public final class HuntTest {
    private static final int NONE = CityChords.NONE;

    public static void main(String[] args) {
        Check c = new Check();
        gather(c);
        chase(c);
        programme(c);
        c.close();
    }

    private static void gather(Check c) {
        // Two in a row of a small city: both go left, one has no further to go.
        CityChords x = Check.cityOf("size 4 2;horn 0 0;citizen 0 1;deaf 2 1;child 2 1;fiddle 3 0;");
        c.due("gather", x.gather(0, 0, 0, 1, false), 2);
        c.due("gather to", x.gather(0, 0, 0, 1, true), 3);
        c.due("gather turned", x.gather(0, 0, 1, 0, false), 2);
        c.due("at one cell", x.gather(0, 0, 1, 2, false), 0);
        c.due("at one cell, to", x.gather(0, 0, 1, 2, true), NONE);
        c.due("both are one", x.gather(0, 0, 1, 1, false), NONE);
        c.due("both are one, to", x.gather(0, 0, 1, 1, true), NONE);
        // The fiddle at the right end does not reach cell 4: the others are brought to him.
        c.due("by the fiddle", x.gather(0, 1, 0, 1, false), 2);
        c.due("by the fiddle, to", x.gather(0, 1, 0, 1, true), 3);
        c.due("no player", x.gather(0, 2, 0, 1, false), NONE);
        c.due("player -1", x.gather(0, -1, 0, 1, false), NONE);
        c.due("no person a", x.gather(0, 0, 3, 1, false), NONE);
        c.due("no person b", x.gather(0, 0, 0, 3, true), NONE);
        c.due("person -1", x.gather(0, 0, -1, 0, true), NONE);
        c.due("no city", x.gather(1, 0, 0, 1, false), NONE);
        // Behind walls they never meet.
        x = Check.cityOf("size 3 2;horn 0 0;citizen 0 1;citizen 2 0;wall 1 0;wall 1 1;");
        c.due("never", x.gather(0, 0, 0, 1, false), NONE);
        c.due("never to", x.gather(0, 0, 0, 1, true), NONE);
        // Nobody hears: nobody goes.
        x = Check.cityOf("size 8 8;fiddle 0 0;citizen 7 7;citizen 6 7;");
        c.due("too far", x.gather(0, 0, 0, 1, false), NONE);
        // Up and down would both do with one more: the least is told.
        x = Check.cityOf("size 2 3;horn 0 1;citizen 0 0;citizen 0 1;");
        c.due("up", x.gather(0, 0, 0, 1, true), 0);
        c.due("up, many", x.gather(0, 0, 0, 1, false), 1);
        x = Check.cityOf("size 2 3;horn 0 1;citizen 0 2;citizen 0 1;");
        c.due("down", x.gather(0, 0, 0, 1, true), 2);
    }

    private static void chase(Check c) {
        // In a blind alley he is caught, round a block he is not.
        CityChords x = Check.cityOf("size 8 2;wall 0 1;wall 1 1;wall 2 1;wall 3 1;wall 4 1;wall 5 1;wall 6 1;wall 7 1;"
            + "fiddle 0 0;thief 0 0;thief 1 0;thief 3 0;thief 7 0;");
        c.due("there", x.chase(0, 0, 0), 0);
        c.due("next", x.chase(0, 0, 1), 1);
        c.due("in the alley", x.chase(0, 0, 2), 7);
        c.due("at its end", x.chase(0, 0, 3), 7);
        x = Check.cityOf("size 2 2;fiddle 0 0;thief 1 1;thief 0 1;");
        c.due("round four", x.chase(0, 0, 0), NONE);
        c.due("round four, next", x.chase(0, 0, 1), 1);
        x = Check.cityOf("size 3 3;fiddle 0 0;thief 2 2;thief 1 1;wall 1 0;wall 0 1;");
        c.due("shut in", x.chase(0, 0, 0), NONE);
        c.due("no person", x.chase(0, 0, 2), NONE);
        c.due("person -1", x.chase(0, 0, -1), NONE);
        c.due("no player", x.chase(0, 1, 0), NONE);
        c.due("player -1", x.chase(0, -1, 0), NONE);
        c.due("no city", x.chase(1, 0, 0), NONE);
        // A T of three arms with two cells each.
        x = Check.cityOf("size 5 3;wall 0 1;wall 1 1;wall 3 1;wall 4 1;wall 0 2;wall 1 2;wall 3 2;wall 4 2;"
            + "drum 0 0;child 4 0;");
        c.due("three arms", x.chase(0, 0, 0), 4);
    }

    private static void row(Check c, CityChords x, int n, int most, int... commands) {
        c.due("most of " + n, x.programme(0, n, NONE), most);
        for (int k = 0; k < commands.length; k++) {
            c.due("command " + k + " of " + n, x.programme(0, n, k), commands[k]);
        }
        c.due("command behind " + n, x.programme(0, n, n), NONE);
    }

    private static void programme(Check c) {
        CityChords x = Check.cityOf("");
        row(c, x, 0, 0);
        row(c, x, 1, 3, 0);
        row(c, x, 2, 6, 0, 1);
        row(c, x, 3, 9, 0, 1, 0);
        row(c, x, 12, 36, 0, 1, 0, 1, 0, 1, 0, 1, 0, 1, 0, 1);
        c.due("habit of 12", x.programme(0, 12, -2), 36);
        c.due("habit of 0", x.programme(0, 0, -2), 0);
        c.due("minutes 13", x.programme(0, 13, NONE), NONE);
        c.due("minutes -1", x.programme(0, -1, NONE), NONE);
        c.due("k -3", x.programme(0, 5, -3), NONE);
        c.due("k 5", x.programme(0, 5, 5), NONE);
        c.due("k 12 of 13", x.programme(0, 13, 12), NONE);
        c.due("city 1", x.programme(1, 5, NONE), NONE);
        c.due("city -1", x.programme(-1, 5, -2), NONE);
        // 9, 8, 7, 6, then it is worn out by 4: 5, 5, ...
        x = Check.cityOf("value stand 0;value free 0;value tell 0;value march 9;");
        row(c, x, 1, 9, 3);
        row(c, x, 2, 17, 3, 3);
        row(c, x, 3, 24, 3, 3, 3);
        // Of rows that bring as much the first.
        row(c, x, 4, 30, 3, 3, 3, 3);
        row(c, x, 5, 35, 3, 3, 3, 3, 3);
        row(c, x, 12, 70, 3, 3, 3, 3, 3, 3, 3, 3, 3, 3, 3, 3);
        c.due("habit of 2", x.programme(0, 2, -2), 9);
        c.due("habit of 3", x.programme(0, 3, -2), 18);
        c.due("habit of 12", x.programme(0, 12, -2), 54);
        x = Check.cityOf("value stand 0;value free 0;value tell 0;value march 0;");
        row(c, x, 3, 0, 0, 0, 0);
        // One that brings nothing is never worth less than nothing.
        x = Check.cityOf("value stand 1;value free 0;value tell 0;value march 0;");
        row(c, x, 4, 2, 0, 1, 0, 0);
    }
}
