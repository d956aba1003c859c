/** Promises 6, 16, 17: city, part, line. */
public final class CityTest {
    private static final int NONE = CityChords.NONE;

    public static void main(String[] args) {
        Check c = new Check();
        plainCity(c);
        wholeCity(c);
        part(c);
        line(c);
        c.close();
    }

    private static void all(Check c, CityChords x, int city, int... pairs) {
        for (int k = 0; k < pairs.length; k += 2) {
            c.due("city(" + city + ", " + pairs[k] + ")", x.city(city, pairs[k]), pairs[k + 1]);
        }
    }

    private static void plainCity(Check c) {
        CityChords x = new CityChords();
        all(c, x, 0, 0, NONE, 100, NONE);
        x.text(0, NONE);
        all(c, x, 0, 0, 6, 1, 6, 2, 4, 3, 0, 4, 0, 5, NONE, 9, NONE, -1, NONE, -2, NONE);
        all(c, x, 0, 10, 3, 11, 3, 12, 3, 13, 3, 14, NONE, 19, NONE, 20, NONE, 30, NONE, 40, NONE, 50, NONE);
        all(c, x, 0, 60, NONE, 99, NONE, 100, 0, 135, 0, 136, NONE, Integer.MAX_VALUE, NONE, Integer.MIN_VALUE, NONE);
        all(c, x, 1, 0, NONE);
        all(c, x, -1, 0, NONE);
        all(c, x, 2, 0, NONE);
    }

    private static void wholeCity(Check c) {
        CityChords x = Check.cityOf("size 4 3;wall 1 1;wall 3 2;wind 1;fiddle 0 0;horn 2 2;flute 3 0;drum 0 2;"
            + "citizen 0 1;thief 1 0;child 3 0;deaf 0 2;value stand 5;value march 1;value free 0;value tell 9;"
            + "value stand 7;wind 3;");
        all(c, x, 0, 0, 4, 1, 3, 2, 3, 3, 4, 4, 4, 10, 7, 11, 0, 12, 9, 13, 1);
        all(c, x, 0, 20, 0, 21, 3, 22, 1, 23, 2, 24, NONE, 29, NONE);
        all(c, x, 0, 30, 0, 31, 10, 32, 3, 33, 8, 34, NONE);
        all(c, x, 0, 40, 0, 41, 1, 42, 2, 43, 3, 44, NONE);
        all(c, x, 0, 50, 4, 51, 1, 52, 3, 53, 8, 54, NONE);
        for (int cell = 0; cell < 12; cell++) {
            all(c, x, 0, 100 + cell, cell == 5 || cell == 11 ? 1 : 0);
        }
        all(c, x, 0, 112, NONE);
        Check.tell(x, 0, "size 8 8;wall 7 7;thief 6 7;");
        all(c, x, 1, 163, 1, 162, 0, 164, NONE, 50, 62);
        all(c, x, 0, 0, 4);
    }

    private static void part(Check c) {
        CityChords x = Check.cityOf("size 4 3;citizen 0 0;thief 0 1;child 0 2;deaf 2 2;citizen 3 0;");
        int[] left = {0, 3, 3, 4, 5};
        for (int column = 0; column <= 4; column++) {
            c.due("left of " + column, x.part(0, column, false), left[column]);
            c.due("right of " + column, x.part(0, column, true), 5 - left[column]);
        }
        c.due("column", x.part(0, NONE, false), 1);
        c.due("column, right", x.part(0, NONE, true), 1);
        c.due("part 5", x.part(0, 5, false), NONE);
        c.due("part -2", x.part(0, -2, true), NONE);
        c.due("no city", x.part(1, 0, true), NONE);
        c.due("no city -1", x.part(-1, NONE, true), NONE);
        x = Check.cityOf("");
        c.due("nobody", x.part(0, NONE, false), 0);
        c.due("nobody left", x.part(0, 6, false), 0);
        x = Check.cityOf("citizen 5 0;");
        c.due("one", x.part(0, NONE, false), 0);
        x = Check.cityOf("citizen 4 0;citizen 3 0;");
        c.due("two", x.part(0, NONE, false), 4);
    }

    private static void line(Check c) {
        c.due("nobody", Check.cityOf("").line(0), 0);
        c.due("one", Check.cityOf("deaf 5 5;").line(0), 1);
        c.due("a row", Check.cityOf("size 8 8;deaf 7 7;thief 0 7;child 3 7;child 3 6;").line(0), 3);
        c.due("a column", Check.cityOf("size 8 8;deaf 7 7;thief 7 0;child 7 3;child 3 3;").line(0), 3);
        c.due("one cell", Check.cityOf("deaf 1 1;deaf 1 1;deaf 1 1;deaf 1 1;deaf 1 1;deaf 1 1;").line(0), 6);
        c.due("no city", new CityChords().line(0), NONE);
        c.due("no city -1", Check.cityOf("").line(-1), NONE);
    }
}
