/** The bounds of steps over CELLS that are no WALLS: promises 23, 24, 25, 28. */
public final class StreetEdgeTest {
    private static final int NONE = CityChords.NONE;
    private static final int MIN = Integer.MIN_VALUE;
    private static final int MAX = Integer.MAX_VALUE;
    private static final int[] NO_INDEX = {-1, -2, -3, 2, 3, 64, 100, MIN, MIN + 1, MAX};
    private static final String SHUT = "size 2 2;wall 0 0;wall 1 0;wall 0 1;wall 1 1;";

    public static void main(String[] args) {
        Check c = new Check();
        noSuch(c);
        cellBounds(c);
        walls(c);
        steps(c);
        blocks(c);
        nextToOneAnother(c);
        cordons(c);
        roundBounds(c);
        rounds(c);
        c.close();
    }

    private static void noSuch(Check c) {
        CityChords x = Check.citiesOf("size 2 3;horn 0 0;thief 1 1;", "size 8 8;horn 0 0;thief 1 1;");
        for (int k : NO_INDEX) {
            c.due("P23 city " + k, x.steps(k, 0, 0), NONE);
            c.due("P24 city " + k, x.blocks(k, false), NONE);
            c.due("P24 city " + k + " largest", x.blocks(k, true), NONE);
            c.due("P25 city " + k, x.cordon(k, 0, 5), NONE);
            c.due("P28 city " + k, x.round(k, 0), NONE);
            c.due("P28 player " + k, x.round(0, k), NONE);
        }
        c.due("P23 city 1", x.steps(1, 0, 63), 14);
        c.due("P24 city 1", x.blocks(1, true), 64);
        c.due("P25 city 1", x.cordon(1, 0, 63), 2);
        c.due("P28 city 1", x.round(1, 0), 2);
    }

    /** The CELLS of the least city, of the largest, and beside them. */
    private static void cellBounds(Check c) {
        for (int side : new int[] {2, 3, 8}) {
            CityChords x = Check.cityOf("size " + side + " " + side + ";");
            int cells = side * side;
            for (int cell : new int[] {-1, -2, -side, cells, cells + 1, cells + side, 1000, MIN, MIN + 1, MAX}) {
                for (int other : new int[] {0, cells - 1, cell}) {
                    c.due("P23 " + cell + " to " + other, x.steps(0, cell, other), NONE);
                    c.due("P23 " + other + " to " + cell, x.steps(0, other, cell), NONE);
                    c.due("P25 " + cell + " and " + other, x.cordon(0, cell, other), NONE);
                    c.due("P25 " + other + " and " + cell, x.cordon(0, other, cell), NONE);
                }
            }
            c.due("P23 the first to the last", x.steps(0, 0, cells - 1), 2 * side - 2);
            c.due("P23 the last to the first", x.steps(0, cells - 1, 0), 2 * side - 2);
            c.due("P25 the first and the last", x.cordon(0, 0, cells - 1), 2);
            c.due("P25 the last and the first", x.cordon(0, cells - 1, 0), 2);
        }
    }

    private static void walls(Check c) {
        CityChords x = Check.cityOf("size 3 3;wall 1 1;");
        for (int cell = 0; cell < 9; cell++) {
            c.due("P23 from a wall to " + cell, x.steps(0, 4, cell), NONE);
            c.due("P23 to a wall from " + cell, x.steps(0, cell, 4), NONE);
            c.due("P25 a wall and " + cell, x.cordon(0, 4, cell), NONE);
            c.due("P25 " + cell + " and a wall", x.cordon(0, cell, 4), NONE);
            c.due("P23 where one is, " + cell, x.steps(0, cell, cell), cell == 4 ? NONE : 0);
            c.due("P25 both are one, " + cell, x.cordon(0, cell, cell), NONE);
        }
    }

    private static void steps(Check c) {
        CityChords x = Check.cityOf(World.snake());
        c.due("P23 along the snake", x.steps(0, 0, 48), 34);
        c.due("P23 back", x.steps(0, 48, 0), 34);
        c.due("P23 to its end", x.steps(0, 0, 56), 35);
        c.due("P23 one gate less: never", Check.cityOf(World.snake() + "wall 7 5;").steps(0, 0, 48), NONE);
        c.due("P23 up to the gate", Check.cityOf(World.snake() + "wall 7 5;").steps(0, 0, 39), 25);
        x = Check.cityOf("size 2 2;wall 1 0;wall 0 1;");
        c.due("P23 not askew", x.steps(0, 0, 3), NONE);
        c.due("P23 alone", x.steps(0, 0, 0), 0);
        for (int d : new int[] {1, 3, 5, 7}) {
            c.due("P23 the next one", Check.cityOf("size 3 3;").steps(0, 4, d), 1);
        }
        for (int d : new int[] {0, 2, 6, 8}) {
            c.due("P23 the next but one", Check.cityOf("size 3 3;").steps(0, 4, d), 2);
        }
    }

    private static void blocks(Check c) {
        for (int open = 0; open <= 4; open++) {
            CityChords x = Check.cityOf(SHUT.substring(0, 9 + 9 * (4 - open)));
            c.due("P24 blocks of " + open + " cells", x.blocks(0, false), open == 0 ? 0 : 1);
            c.due("P24 largest of " + open + " cells", x.blocks(0, true), open);
        }
        CityChords x = Check.cityOf("size 2 2;wall 1 0;wall 0 1;");
        c.due("P24 askew are two", x.blocks(0, false), 2);
        c.due("P24 of one each", x.blocks(0, true), 1);
        for (int odd = 0; odd < 2; odd++) {
            StringBuilder board = new StringBuilder("size 8 8;");
            for (int cell = 0; cell < 64; cell++) {
                if ((cell % 8 + cell / 8) % 2 == odd) {
                    board.append("wall").append(cell % 8).append(' ').append(cell / 8).append(';');
                }
            }
            x = Check.cityOf(board.toString());
            c.due("P24 the most blocks there are", x.blocks(0, false), 32);
            c.due("P24 of one each", x.blocks(0, true), 1);
        }
        x = Check.cityOf("size 8 8;");
        c.due("P24 all are one", x.blocks(0, false), 1);
        c.due("P24 of 64", x.blocks(0, true), 64);
        x = Check.cityOf("size 2 2;");
        c.due("P24 the least city", x.blocks(0, false), 1);
        c.due("P24 of 4", x.blocks(0, true), 4);
        x = Check.cityOf(World.snake());
        c.due("P24 the snake is one", x.blocks(0, false), 1);
        c.due("P24 of 36", x.blocks(0, true), 36);
        x = Check.cityOf("size 8 2;wall 7 0;wall 0 1;");
        c.due("P24 not round the sides", x.blocks(0, false), 1);
        x = Check.cityOf("size 8 3;wall 0 1;wall 1 1;wall 2 1;wall 3 1;wall 4 1;wall 5 1;wall 6 1;wall 7 1;wall 3 0;");
        c.due("P24 three", x.blocks(0, false), 3);
        c.due("P24 the largest is the last", x.blocks(0, true), 8);
    }

    /** NONE of two next to one another, in each DIRECTION; not of those at the ends of two rows. */
    private static void nextToOneAnother(Check c) {
        for (int wide = 2; wide <= 8; wide++) {
            CityChords x = Check.cityOf("size " + wide + " 8;");
            for (int a = 0; a < 8 * wide; a += 3) {
                for (int b = 0; b < 8 * wide; b++) {
                    int apart = Math.abs(a % wide - b % wide) + Math.abs(a / wide - b / wide);
                    if (apart <= 1) {
                        c.due("P25 one, or next: " + a + " " + b + " of " + wide, x.cordon(0, a, b), NONE);
                    } else if (apart == 2) {
                        c.due("P25 next but one: " + a + " " + b + " of " + wide, x.cordon(0, a, b) > 0, true);
                    }
                }
            }
        }
        CityChords x = Check.cityOf("size 8 8;");
        c.due("P25 the end of a row and the beginning of the next", x.cordon(0, 15, 16), 3);
        c.due("P25 the first two rows' ends", x.cordon(0, 7, 8), 2);
        c.due("P25 in a city of two columns", Check.cityOf("size 2 8;").cordon(0, 1, 2), 2);
    }

    /** From none to four further WALLS. */
    private static void cordons(Check c) {
        c.due("P25 none", Check.cityOf("size 3 2;wall 1 0;wall 1 1;").cordon(0, 0, 2), 0);
        c.due("P25 one", Check.cityOf("size 3 2;wall 1 0;").cordon(0, 0, 2), 1);
        c.due("P25 one of a row", Check.cityOf("size 8 2;wall 1 1;wall 2 1;wall 3 1;wall 4 1;wall 5 1;wall 6 1;").cordon(0, 0, 7), 1);
        c.due("P25 two", Check.cityOf("size 3 2;").cordon(0, 0, 2), 2);
        c.due("P25 three", Check.cityOf("size 3 3;").cordon(0, 3, 5), 3);
        c.due("P25 four", Check.cityOf("size 5 5;").cordon(0, 6, 18), 4);
        c.due("P25 four of the largest", Check.cityOf("size 8 8;").cordon(0, 9, 54), 4);
        c.due("P25 four, askew", Check.cityOf("size 4 4;").cordon(0, 5, 10), 4);
        c.due("P25 two corners", Check.cityOf("size 8 8;").cordon(0, 7, 56), 2);
        c.due("P25 a gate in the middle", Check.cityOf("size 5 5;wall 2 0;wall 2 1;wall 2 3;wall 2 4;").cordon(0, 11, 13), 1);
        c.due("P25 two gates", Check.cityOf("size 5 5;wall 2 1;wall 2 2;wall 2 3;").cordon(0, 11, 13), 2);
        c.due("P25 two ways through one cell", Check.cityOf("size 4 3;wall 1 0;wall 2 2;").cordon(0, 4, 7), 1);
        // Ways that cross: a further one takes back parts of those before.
        String crossing = "size 7 6;wall0 0;wall0 1;wall6 2;wall4 3;wall5 4;wall3 5;wall5 5;";
        c.due("P25 crossing ways", Check.cityOf(crossing).cordon(0, 8, 28), 3);
        crossing = "size 8 6;wall4 0;wall4 1;wall2 3;wall3 3;wall4 3;wall5 3;wall0 5;";
        c.due("P25 crossing ways, another city", Check.cityOf(crossing).cordon(0, 13, 30), 3);
        c.due("P25 crossing ways, from the other end", Check.cityOf(crossing).cordon(0, 37, 13), 3);
        c.due("P25 the least city", Check.cityOf("size 2 2;").cordon(0, 0, 3), 2);
        c.due("P25 the least city, a wall", Check.cityOf("size 2 2;wall 1 0;").cordon(0, 0, 3), 1);
        c.due("P25 the least city, two walls", Check.cityOf("size 2 2;wall 1 0;wall 0 1;").cordon(0, 0, 3), 0);
        CityChords x = Check.cityOf(World.snake());
        c.due("P25 the snake's ends", x.cordon(0, 0, 56), 1);
        c.due("P25 people are no walls", Check.cityOf("size 3 2;deaf 1 0;horn 1 1;").cordon(0, 0, 2), 2);
    }

    private static void roundBounds(Check c) {
        for (int many = 0; many <= 6; many++) {
            CityChords x = Check.citiesOf("", "size 2 2;" + "horn 1 1;".repeat(many) + "thief 1 1;".repeat(6 - many));
            for (int k = -3; k <= 8; k++) {
                c.due("P28 player " + k + " of " + many, x.round(1, k), k >= 0 && k < many ? 0 : NONE);
            }
            c.due("P28 no player there", x.round(0, 0), NONE);
        }
    }

    private static void rounds(Check c) {
        c.due("P28 nobody", Check.cityOf("size 8 8;horn 7 7;").round(0, 0), 0);
        c.due("P28 nobody, shut in", Check.cityOf(SHUT.replace("wall 0 0;", "") + "horn 0 0;").round(0, 0), 0);
        c.due("P28 one at his cell", Check.cityOf("horn 2 2;deaf 2 2;").round(0, 0), 0);
        c.due("P28 one, the next", Check.cityOf("horn 2 2;deaf 2 3;").round(0, 0), 1);
        c.due("P28 one, not back", Check.cityOf("size 8 8;horn 0 0;deaf 7 7;").round(0, 0), 14);
        c.due("P28 one that he can't come to", Check.cityOf("size 2 2;horn 0 0;deaf 1 1;wall 1 0;wall 0 1;").round(0, 0), NONE);
        for (int k = 0; k < 6; k++) {
            String others = "deaf 0 0;";
            String text = "size 3 2;wall 1 0;wall 1 1;horn 0 0;" + others.repeat(k) + "thief 2 0;" + others.repeat(5 - k);
            c.due("P28 the one of six, " + k, Check.cityOf(text).round(0, 0), NONE);
            text = "size 8 2;horn 0 0;" + others.repeat(k) + "thief 7 1;" + others.repeat(5 - k);
            c.due("P28 six, one far off, " + k, Check.cityOf(text).round(0, 0), 8);
        }
        c.due("P28 six in a row", Check.cityOf("size 8 2;horn 0 0;deaf 5 0;deaf 2 0;deaf 7 0;deaf 3 0;deaf 6 0;deaf 1 0;").round(0, 0), 7);
        c.due("P28 six on both sides", Check.cityOf("size 8 2;horn 3 0;deaf 5 0;deaf 2 0;deaf 7 0;deaf 0 0;deaf 6 0;deaf 1 0;").round(0, 0), 10);
        c.due("P28 all ends of the snake", Check.cityOf(World.snake() + "horn 0 0;deaf 0 7;deaf 7 6;deaf 0 4;deaf 7 2;").round(0, 0), 35);
        c.due("P28 both ends of the snake", Check.cityOf(World.snake() + "horn 7 2;deaf 0 0;deaf 0 7;").round(0, 0), 44);
        // Where PLAYERS and PEOPLE are, one may step.
        c.due("P28 through others", Check.cityOf("size 8 2;wall 0 1;wall 1 1;horn 0 0;flute 1 0;deaf 1 0;deaf 2 0;").round(0, 0), 2);
    }
}
