/** The bounds of a CITY and of who hears whom: promises 6, 10, 11, 12, 16, 17, 20, 21, 26, 27, by hand. */
public final class CityEdgeTest {
    private static final int NONE = CityChords.NONE;
    private static final int MIN = Integer.MIN_VALUE;
    private static final int MAX = Integer.MAX_VALUE;
    private static final int[] NO_INDEX = {-1, -2, -3, 2, 3, 6, 64, MIN, MIN + 1, MAX};
    private static final int[] RANGES = {3, 4, 6, 9};
    private static final String[] INSTRUMENTS = {"fiddle", "flute", "drum", "horn"};
    private static final String[] KINDS = {"citizen", "thief", "child", "deaf"};

    public static void main(String[] args) {
        Check c = new Check();
        cityWhats(c);
        sizes(c);
        part(c);
        line(c);
        hearsBounds(c);
        sides(c);
        farthest(c);
        ranges(c);
        againstTheWind(c);
        enough(c);
        freshBounds(c);
        freshCells(c);
        square(c);
        silent(c);
        facts(c);
        seenBounds(c);
        seenCells(c);
        c.close();
    }

    /** Every what around all that there are, for CITIES with so many of all. */
    private static void cityWhats(Check c) {
        for (int many = 0; many <= 6; many++) {
            int wide = 2 + many;
            int high = 8 - many;
            StringBuilder text = new StringBuilder("size " + wide + " " + high + ";wall 1 1;wind " + many % 5 + ";");
            int[] value = {0, 9, 3, many};
            text.append("value stand 0;value free 9;value march ").append(many).append(';');
            for (int k = 0; k < many; k++) {
                text.append(INSTRUMENTS[k % 4]).append(' ').append(k % wide).append(" 0;");
                text.append(KINDS[k % 4]).append(" 0 ").append(k % high).append(';');
            }
            CityChords x = Check.citiesOf("size 2 2;", text.toString());
            for (int what = -20; what <= 180; what++) {
                int k = Math.floorMod(what, 10);
                int due = NONE;
                switch (Math.floorDiv(what, 10)) {
                    case 0: due = what < 5 ? new int[] {wide, high, many % 5, many, many}[what] : NONE; break;
                    case 1: due = k < 4 ? value[k] : NONE; break;
                    case 2: due = k < many ? k % 4 : NONE; break;
                    case 3: due = k < many ? k % wide : NONE; break;
                    case 4: due = k < many ? k % 4 : NONE; break;
                    case 5: due = k < many ? wide * (k % high) : NONE; break;
                    default: due = what >= 100 && what < 100 + wide * high ? what == 101 + wide ? 1 : 0 : NONE; break;
                }
                c.due("P6 city(1, " + what + ") of " + many, x.city(1, what), due);
            }
            for (int what : new int[] {MIN, MIN + 100, MIN + 10, MAX, MAX - 1, 1000, -100, -1000}) {
                c.due("P6 city(1, " + what + ")", x.city(1, what), NONE);
            }
            for (int city : NO_INDEX) {
                for (int what : new int[] {0, 1, 2, 3, 4, 10, 20, 30, 40, 50, 100}) {
                    c.due("P6 city(" + city + ", " + what + ")", x.city(city, what), NONE);
                }
            }
        }
    }

    /** The least and the largest sizes: the last CELL is there, the next one is not. */
    private static void sizes(Check c) {
        for (int wide = 2; wide <= 8; wide++) {
            for (int high = 2; high <= 8; high++) {
                int last = wide * high - 1;
                CityChords x = Check.cityOf("size " + wide + " " + high + ";horn " + (wide - 1) + " " + (high - 1) + ";thief "
                    + (wide - 1) + " " + (high - 1) + ";");
                c.due("T1 wide", x.city(0, 0), wide);
                c.due("T1 high", x.city(0, 1), high);
                c.due("T1 cell of a player", x.city(0, 30), last);
                c.due("T1 cell of a person", x.city(0, 50), last);
                c.due("T1 the last cell", x.city(0, 100 + last), 0);
                c.due("T1 no further cell", x.city(0, 101 + last), NONE);
                c.due("T1 blocks", x.blocks(0, true), last + 1);
                c.due("P10 the last cell", x.hears(0, 0, last), 0);
                c.due("P10 the first cell", x.hears(0, 0, 0), wide + high - 2);
                c.due("P10 no further cell", x.hears(0, 0, last + 1), NONE);
                c.due("P23 from end to end", x.steps(0, 0, last), wide + high - 2);
                c.due("P23 no further cell", x.steps(0, 0, last + 1), NONE);
                c.due("P23 from no cell", x.steps(0, last + 1, 0), NONE);
                c.due("P25 from corner to corner", x.cordon(0, 0, last), 2);
                c.due("P25 no further cell", x.cordon(0, 0, last + 1), NONE);
                c.due("P16 column WIDE", x.part(0, wide, false), 1);
                c.due("P16 column WIDE less 1", x.part(0, wide - 1, false), 0);
                c.due("P16 column WIDE and 1", x.part(0, wide + 1, false), NONE);
            }
        }
    }

    private static void part(Check c) {
        for (int wide = 2; wide <= 8; wide++) {
            String last = "citizen " + (wide - 1) + " 0;";
            CityChords x = Check.citiesOf("", "size " + wide + " 2;citizen 0 0;deaf 0 1;" + last);
            c.due("P16 column 0, left", x.part(1, 0, false), 0);
            c.due("P16 column 0, right", x.part(1, 0, true), 3);
            c.due("P16 column 1, left", x.part(1, 1, false), 2);
            c.due("P16 column 1, right", x.part(1, 1, true), 1);
            c.due("P16 last column, left", x.part(1, wide - 1, false), 2);
            c.due("P16 column WIDE, left", x.part(1, wide, false), 3);
            c.due("P16 column WIDE, right", x.part(1, wide, true), 0);
            for (int column : new int[] {wide + 1, wide + 2, 9, -2, -3, MIN, MAX}) {
                c.due("P16 column " + column + " of " + wide, x.part(1, column, false), NONE);
                c.due("P16 column " + column + " of " + wide + ", right", x.part(1, column, true), NONE);
            }
            c.due("P16 most alike", x.part(1, NONE, false), 1);
            c.due("P16 most alike, right", x.part(1, NONE, true), 1);
            for (int city : NO_INDEX) {
                c.due("P16 city " + city, x.part(city, 0, false), NONE);
                c.due("P16 city " + city + ", most alike", x.part(city, NONE, true), NONE);
            }
        }
        c.due("P16 nobody: of several the least", Check.cityOf("").part(0, NONE, false), 0);
        c.due("P16 nobody, left", Check.cityOf("").part(0, 3, false), 0);
        c.due("P16 nobody, right", Check.cityOf("").part(0, 3, true), 0);
        c.due("P16 one: of several the least", Check.cityOf("size 8 8;deaf 0 0;").part(0, NONE, false), 0);
        c.due("P16 two in the last column", Check.cityOf("size 8 8;deaf 7 0;deaf 7 1;").part(0, NONE, false), 0);
        c.due("P16 one in each of the last two", Check.cityOf("size 8 8;deaf 7 0;deaf 6 1;").part(0, NONE, false), 7);
        c.due("P16 one more on the left", Check.cityOf("size 8 8;deaf 3 0;deaf 3 1;deaf 5 1;").part(0, NONE, false), 4);
        c.due("P16 six in one column", Check.cityOf("deaf 5 0;".repeat(6)).part(0, 6, false), 6);
        c.due("P16 six in one column: none is left of it", Check.cityOf("deaf 5 0;".repeat(6)).part(0, 5, false), 0);
    }

    private static void line(Check c) {
        CityChords x = Check.citiesOf("citizen 0 0;", "");
        c.due("P17 one", x.line(0), 1);
        c.due("P17 nobody", x.line(1), 0);
        for (int city : NO_INDEX) {
            c.due("P17 city " + city, x.line(city), NONE);
        }
        c.due("P17 players do not count", Check.cityOf("horn 0 0;horn 1 0;deaf 3 3;").line(0), 1);
        c.due("P17 six in the last row", Check.cityOf("size 8 8;deaf 0 7;deaf 1 7;thief 2 7;thief 5 7;deaf 6 7;deaf 7 7;").line(0), 6);
        c.due("P17 six in the last column", Check.cityOf("size 8 8;deaf 7 0;deaf 7 1;thief 7 2;thief 7 5;deaf 7 6;deaf 7 7;").line(0), 6);
        c.due("P17 six in the first row", Check.cityOf("deaf 0 0;deaf 1 0;deaf 2 0;deaf 3 0;deaf 4 0;deaf 5 0;").line(0), 6);
        c.due("P17 six in the first column", Check.cityOf("deaf 0 0;deaf 0 1;deaf 0 2;deaf 0 3;deaf 0 4;deaf 0 5;").line(0), 6);
        c.due("P17 six at one cell", Check.cityOf("child 5 5;".repeat(6)).line(0), 6);
        c.due("P17 six askew", Check.cityOf("deaf 0 0;deaf 1 1;deaf 2 2;deaf 3 3;deaf 4 4;deaf 5 5;").line(0), 1);
        c.due("P17 a row and a column", Check.cityOf("deaf 0 0;deaf 1 0;deaf 2 0;deaf 0 1;deaf 0 2;deaf 0 3;").line(0), 4);
    }

    private static void hearsBounds(Check c) {
        for (int many = 0; many <= 6; many++) {
            CityChords x = Check.citiesOf("size 2 2;", "size 8 8;" + "horn 7 7;".repeat(many));
            for (int player = -2; player <= 8; player++) {
                boolean there = player >= 0 && player < many;
                c.due("P10 player " + player + " of " + many, x.hears(1, player, 63), there ? 0 : NONE);
                for (int cell : new int[] {64, -1, -2, 65, MIN, MAX}) {
                    c.due("P10 cell " + cell, x.hears(1, player, cell), NONE);
                }
            }
            c.due("P10 player max", x.hears(1, MAX, 0), NONE);
            c.due("P10 player min", x.hears(1, MIN, 0), NONE);
            for (int city : NO_INDEX) {
                c.due("P10 city " + city, x.hears(city, 0, 0), NONE);
            }
            c.due("P10 no player there", x.hears(0, 0, 0), NONE);
        }
    }

    /** Sound does not go over a side to the next row. */
    private static void sides(Check c) {
        for (int wide = 2; wide <= 8; wide++) {
            CityChords x = Check.cityOf("size " + wide + " 3;horn " + (wide - 1) + " 0;horn 0 1;horn 0 0;horn " + (wide - 1) + " 2;");
            c.due("P10 not over the right side of " + wide, x.hears(0, 0, wide), wide);
            c.due("P10 not over the left side of " + wide, x.hears(0, 1, wide - 1), wide);
            c.due("P10 not over the upper side of " + wide, x.hears(0, 2, 2 * wide), 2);
            c.due("P10 not over the lower side of " + wide, x.hears(0, 3, wide - 1), 2);
            c.due("P10 not from end to end of " + wide, x.hears(0, 2, 3 * wide - 1), wide + 1);
            c.due("P23 not over the right side of " + wide, x.steps(0, wide - 1, wide), wide);
            c.due("P23 not over the left side of " + wide, x.steps(0, wide, wide - 1), wide);
        }
        // Nor onto columns and rows that a smaller city has not.
        CityChords x = Check.cityOf("size 3 3;wall 1 0;wall 1 1;horn 0 0;citizen 2 0;");
        c.due("P23 not round outside", x.steps(0, 0, 2), 6);
        c.due("P10 over the wall is nearest", x.hears(0, 0, 2), 4);
    }

    private static void farthest(Check c) {
        StringBuilder all = new StringBuilder("size 8 8;fiddle 0 0;wind 0;");
        for (int cell = 1; cell < 64; cell++) {
            all.append("wall").append(cell % 8).append(' ').append(cell / 8).append(';');
        }
        CityChords x = Check.cityOf(all.toString());
        c.due("P10 own cell", x.hears(0, 0, 0), 0);
        c.due("P10 onto a wall", x.hears(0, 0, 1), 3);
        c.due("P10 onto a wall against the wind", x.hears(0, 0, 8), 4);
        // Seven steps to the right at 3, seven down at 4.
        c.due("P10 the farthest there is", x.hears(0, 0, 63), 49);
        c.due("P12 one cell is open, and hears", x.fresh(0, 3, 1, 0), 0);
        c.due("P12 two are not open", x.fresh(0, 3, 2, 0), NONE);
        String text = all.toString().replace("fiddle 0 0;wind 0;", "fiddle 7 7;wind 1;").replace("wall7 7;", "");
        x = Check.cityOf(text);
        c.due("P10 the farthest back", x.hears(0, 0, 0), 6 * 4 + 7 * 3 + 2);
        x = Check.cityOf("size 8 8;fiddle 7 0;wind 4;");
        c.due("P10 no wind, no walls", x.hears(0, 0, 56), 14);
    }

    /** Heard at a cost of his RANGE, not at 1 more. */
    private static void ranges(Check c) {
        for (int k = 0; k < 4; k++) {
            int range = RANGES[k];
            int column = Math.min(range, 7);
            int row = range - column;
            CityChords x = Check.cityOf("size 8 8;" + INSTRUMENTS[k] + " 0 0;citizen " + column + " " + row + ";citizen "
                + column + " " + (row + 1) + ";citizen " + row + " " + column + ";citizen " + (row + 1) + " " + column + ";");
            c.due("T2 range of " + INSTRUMENTS[k], x.silent(0), 10);
            c.due("T2 cost of the last", x.hears(0, 0, 8 * row + column), range);
            Check.tell(x, Check.NIGHT, "stand 0;");
            c.due("T2 heard at the range of " + INSTRUMENTS[k], x.state(0, 0, 1, 0), 5);
            Check.tell(x, Check.SIGHT, "loud " + column + " " + row + ";");
            Check.tell(x, Check.SIGHT, "quiet " + column + " " + (row + 1) + ";");
            c.due("T2 loud at the range", x.seen(0, 0, 10), 1);
            c.due("T2 quiet behind it", x.seen(0, 1, 0), 2);
        }
        // A DEAF one's CELL hears; a player's own CELL hears him.
        c.due("T2 own cell", Check.cityOf("size 2 2;fiddle 1 1;deaf 1 1;").silent(0), 0);
    }

    private static void againstTheWind(Check c) {
        for (int wind = 0; wind <= 4; wind++) {
            // A fiddle in the middle of 5 by 5: 3 steps at most, 1 and a half against the wind.
            CityChords x = Check.cityOf("size 5 5;fiddle 2 2;wind " + wind + ";");
            int[] one = {7, 13, 17, 11};
            int[] two = {2, 14, 22, 10};
            for (int d = 0; d < 4; d++) {
                boolean against = wind < 4 && d == (wind + 2) % 4;
                c.due("T2 wind " + wind + " one step to " + d, x.hears(0, 0, one[d]), against ? 2 : 1);
                c.due("T2 wind " + wind + " two steps to " + d, x.hears(0, 0, two[d]), against ? 4 : 2);
            }
        }
    }

    private static void enough(Check c) {
        CityChords x = Check.citiesOf("", "size 8 8;fiddle 0 0;fiddle 7 0;fiddle 0 7;fiddle 7 7;fiddle 3 1;fiddle 4 6;");
        c.due("P11 no players", x.enough(0), 0);
        c.due("P11 all six", x.enough(1), 63);
        for (int city : NO_INDEX) {
            c.due("P11 city " + city, x.enough(city), NONE);
        }
        for (int many = 1; many <= 6; many++) {
            c.due("P11 the least of " + many, Check.cityOf("horn 3 3;".repeat(many)).enough(0), 1);
            c.due("P11 the last of " + many, Check.cityOf("size 5 5;" + "fiddle 0 0;".repeat(many - 1) + "horn 2 2;").enough(0),
                1 << many - 1);
        }
        c.due("P11 hearing a WALL alone is no matter",
            Check.cityOf("size 2 2;wall 0 1;wall 1 0;wall 1 1;fiddle 0 0;horn 0 0;").enough(0), 1);
        // One on each side is needed: 0 and 2 are less than 0 and 3, 1 and 2, 1 and 3.
        x = Check.cityOf("size 8 2;fiddle 1 0;fiddle 1 0;fiddle 6 0;fiddle 6 0;");
        c.due("P11 of several the least", x.enough(0), 5);
    }

    private static void freshBounds(Check c) {
        CityChords x = Check.citiesOf("size 2 2;", "size 8 8;");
        for (int instrument = -2; instrument <= 6; instrument++) {
            for (int n = -1; n <= 4; n++) {
                for (int what = -2; what <= 4; what++) {
                    boolean there = instrument >= 0 && instrument <= 3 && (n == 1 || n == 2) && what >= 0 && what <= n;
                    int[] due = {4, 0, 1};
                    c.due("P12 fresh(0, " + instrument + ", " + n + ", " + what + ")", x.fresh(0, instrument, n, what),
                        there ? due[what] : NONE);
                }
            }
        }
        for (int wrong : new int[] {MIN, MAX, MIN + 1, MAX - 1}) {
            c.due("P12 instrument " + wrong, x.fresh(0, wrong, 1, 0), NONE);
            c.due("P12 n " + wrong, x.fresh(0, 0, wrong, 0), NONE);
            c.due("P12 what " + wrong, x.fresh(0, 0, 2, wrong), NONE);
        }
        for (int city : NO_INDEX) {
            c.due("P12 city " + city, x.fresh(city, 0, 1, 0), NONE);
        }
        // A fiddle is heard at 25 cells, where no side is nearer than 3 steps.
        c.due("P12 a fiddle alone", x.fresh(1, 0, 1, 0), 25);
        c.due("P12 where", x.fresh(1, 0, 1, 1), 27);
    }

    private static void freshCells(Check c) {
        String shut = "size 2 2;wall 0 0;wall 1 0;wall 0 1;wall 1 1;";
        for (int open = 0; open <= 4; open++) {
            String text = shut.substring(0, 9 + 9 * (4 - open));
            for (int n = 1; n <= 2; n++) {
                CityChords x = Check.cityOf(text);
                for (int instrument = 0; instrument < 4; instrument++) {
                    c.due("P12 " + n + " at " + open + " cells", x.fresh(0, instrument, n, 0), open < n ? NONE : open);
                    c.due("P12 the first of " + n + " at " + open, x.fresh(0, instrument, n, 1), open < n ? NONE : 4 - open);
                    c.due("P12 the second of " + n + " at " + open, x.fresh(0, instrument, n, 2), open < n || n == 1 ? NONE : 5 - open);
                }
            }
        }
        // Unlike ones, even if one alone would do; at a CELL where a PLAYER is, if all hear him.
        CityChords x = Check.cityOf("size 2 2;horn 0 0;");
        c.due("P12 nothing is won", x.fresh(0, 0, 2, 0), 0);
        c.due("P12 the first row", x.fresh(0, 0, 2, 1), 0);
        c.due("P12 the first row, unlike", x.fresh(0, 0, 2, 2), 1);
        c.due("P12 the first cell", x.fresh(0, 0, 1, 1), 0);
        x = Check.cityOf("size 8 2;horn 0 0;wall 7 0;fiddle 6 0;");
        c.due("P12 all hear already", x.fresh(0, 3, 1, 0), 0);
        // Only 36, 45, 54 and 63 hear nobody: a fiddle is heard at all four from 39, 46, 53, 60.
        x = Check.cityOf("size 8 8;drum 0 0;drum 7 0;drum 0 7;");
        c.due("P12 the four that hear nobody", x.fresh(0, 0, 1, 0), 4);
        c.due("P12 the least cell for them", x.fresh(0, 0, 1, 1), 39);
        c.due("P12 two for them", x.fresh(0, 0, 2, 0), 4);
        c.due("P12 the first row for them", x.fresh(0, 0, 2, 1), 0);
        c.due("P12 the first row for them, its second", x.fresh(0, 0, 2, 2), 39);
        c.due("P12 a wall is no place", Check.cityOf("size 3 3;wall 1 1;").fresh(0, 1, 1, 1), 0);
    }

    private static void square(Check c) {
        CityChords x = Check.citiesOf("size 2 2;", "size 8 8;" + "fiddle 7 7;".repeat(6));
        c.due("P26 no players, the least cell", x.square(0, false), 0);
        c.due("P26 no players, none heard", x.square(0, true), 0);
        c.due("P26 six players", x.square(1, true), 6);
        c.due("P26 six players, the least cell", x.square(1, false), 39);
        for (int city : NO_INDEX) {
            c.due("P26 city " + city, x.square(city, false), NONE);
            c.due("P26 city " + city + " many", x.square(city, true), NONE);
        }
        c.due("P26 a wall, too", Check.cityOf("size 2 2;wall 0 0;fiddle 1 0;").square(0, false), 0);
        c.due("P26 a wall without players", Check.cityOf("size 2 2;wall 0 0;").square(0, false), 0);
        // The fiddle is heard at 39 first, where the horn costs 10, then at 46, where it costs 8.
        c.due("P26 the first that hears both", Check.cityOf("size 8 8;fiddle 7 7;horn 0 7;").square(0, false), 46);
    }

    private static void silent(Check c) {
        CityChords x = Check.citiesOf("", "citizen 0 0;thief 1 0;child 2 0;deaf 3 0;deaf 4 0;citizen 5 0;");
        c.due("P27 nobody", x.silent(0), 0);
        c.due("P27 six, no players", x.silent(1), 63);
        for (int city : NO_INDEX) {
            c.due("P27 city " + city, x.silent(city), NONE);
        }
        c.due("P27 six hear", Check.cityOf("citizen 0 0;thief 1 0;child 2 0;deaf 3 0;deaf 4 0;citizen 5 0;drum 2 0;").silent(0), 0);
        c.due("P27 the last alone does not", Check.cityOf("size 8 2;" + "deaf 0 0;".repeat(5) + "child 7 1;drum 0 0;").silent(0), 32);
        c.due("P27 the first alone does not", Check.cityOf("size 8 2;child 7 1;" + "deaf 0 0;".repeat(5) + "drum 0 0;").silent(0), 1);
        c.due("P27 one player is enough", Check.cityOf("size 8 2;child 7 1;fiddle 0 0;fiddle 7 0;").silent(0), 0);
    }

    private static void facts(Check c) {
        for (int many : new int[] {0, 1, 9, 10}) {
            CityChords x = new CityChords();
            StringBuilder text = new StringBuilder();
            for (int k = 0; k < many; k++) {
                text.append(k % 2 == 0 ? "quiet " : "loud ").append(k % 8).append(' ').append(7 - k % 8).append(';');
            }
            Check.tell(x, Check.SIGHT, "loud 1 1;");
            Check.tell(x, Check.SIGHT, text.toString());
            c.due("P20 facts", x.fact(1, NONE, 0), many);
            for (int what : new int[] {1, 2, 3, -1, -2, MIN, MAX}) {
                c.due("P20 how many, what " + what, x.fact(1, NONE, what), -2);
            }
            for (int k = -3; k <= 12; k++) {
                for (int what = -2; what <= 4 && k != NONE; what++) {
                    boolean there = k >= 0 && k < many && what >= 0 && what <= 2;
                    int due = !there ? -2 : what == 0 ? k % 2 : what == 1 ? k % 8 : 7 - k % 8;
                    c.due("P20 fact " + k + " of " + many + ", " + what, x.fact(1, k, what), due);
                }
            }
            c.due("P20 fact max", x.fact(1, MAX, 0), -2);
            c.due("P20 fact min", x.fact(1, MIN, 0), -2);
            c.due("P20 what max", x.fact(0, 0, MAX), -2);
            c.due("P20 what min", x.fact(0, 0, MIN), -2);
            for (int sight : NO_INDEX) {
                c.due("P20 sight " + sight, x.fact(sight, NONE, 0), -2);
                c.due("P20 sight " + sight + " fact 0", x.fact(sight, 0, 0), -2);
            }
        }
    }

    private static void seenBounds(Check c) {
        for (int many = 0; many <= 6; many++) {
            CityChords x = Check.citiesOf("size 2 2;", "size 8 8;" + "horn 7 7;".repeat(many));
            Check.tell(x, Check.SIGHT, "loud 7 7;");
            Check.tell(x, Check.SIGHT, "");
            int sets = 1 << many;
            c.due("P21 all sets of " + many, x.seen(1, 1, 0), sets);
            c.due("P21 the first", x.seen(1, 1, 10), 0);
            c.due("P21 the last", x.seen(1, 1, 9 + sets), sets - 1);
            c.due("P21 behind the last", x.seen(1, 1, 10 + sets), -2);
            c.due("P21 nobody surely", x.seen(1, 1, 1), 0);
            for (int what : new int[] {3, 4, 9, -1, -2, 75, 100, MIN, MAX, MIN + 10}) {
                c.due("P21 what " + what, x.seen(1, 1, what), -2);
            }
            c.due("P21 all but the empty set", x.seen(1, 0, 0), sets - 1);
            c.due("P21 the first of these", x.seen(1, 0, 10), many == 0 ? -2 : 1);
            c.due("P21 the last of these", x.seen(1, 0, 8 + sets), many == 0 ? -2 : sets - 1);
            c.due("P21 behind the last of these", x.seen(1, 0, 9 + sets), -2);
            c.due("P21 surely", x.seen(1, 0, 1), many == 0 ? NONE : many == 1 ? 1 : 0);
            c.due("P21 listen", x.seen(1, 0, 2), many == 0 ? NONE : 0);
            for (int k : NO_INDEX) {
                c.due("P21 city " + k, x.seen(k, 1, 0), -2);
                c.due("P21 sight " + k, x.seen(1, k, 0), -2);
            }
            c.due("P21 not there in the other city", x.seen(0, 0, 0), -2);
        }
    }

    /** -2, if a CELL told of is not there, whatever is asked for, and whichever FACT tells of it. */
    private static void seenCells(Check c) {
        for (int wide = 2; wide <= 8; wide++) {
            int high = 10 - wide;
            CityChords x = Check.cityOf("size " + wide + " " + high + ";fiddle 0 0;");
            Check.tell(x, Check.SIGHT, "quiet " + (wide - 1) + " " + (high - 1) + ";");
            Check.tell(x, Check.SIGHT, "");
            c.due("P21 the last cell is there", x.seen(0, 0, 0) > 0, true);
            for (String fact : new String[] {"loud " + wide + " 0;", "quiet 0 " + high + ";", "loud 0 0;loud 0 " + high + ";",
                "quiet " + wide + " 0;loud 0 0;", "loud 0 0;".repeat(9) + "quiet " + wide + " " + high + ";"}) {
                boolean can = Check.tell(x, Check.SIGHT, fact, 1) == 1;
                for (int what : new int[] {0, 1, 2, 10, 11}) {
                    c.due("P21 '" + fact + "' in " + wide + " " + high, !can || x.seen(0, 1, what) == -2, true);
                }
            }
        }
        // Nothing is SEEN: 0, NONE, NONE, no k-th.
        for (String fact : new String[] {"loud 0 0;quiet 0 0;", "quiet 0 0;loud 1 0;", "loud 5 5;"}) {
            CityChords x = Check.cityOf("fiddle 0 0;");
            Check.tell(x, Check.SIGHT, fact);
            c.due("P21 nothing is seen", x.seen(0, 0, 0), 0);
            c.due("P21 nobody surely, none is seen", x.seen(0, 0, 1), NONE);
            c.due("P21 no cell to listen at", x.seen(0, 0, 2), NONE);
            c.due("P21 no first set", x.seen(0, 0, 10), -2);
        }
        // LISTEN at a WALL: the one CELL at which the two differ.
        CityChords x = Check.cityOf("size 2 2;flute 0 0;wall 1 0;wall 0 1;wall 1 1;");
        Check.tell(x, Check.SIGHT, "");
        c.due("P21 listen at his own cell", x.seen(0, 0, 2), 0);
        x = Check.cityOf("size 8 2;fiddle 0 0;fiddle 7 1;");
        Check.tell(x, Check.SIGHT, "loud 0 0;");
        c.due("P21 listen where it is not known", x.seen(0, 0, 2), 5);
        Check.tell(x, Check.SIGHT, "loud 0 0;loud 7 1;");
        c.due("P21 one set is seen: the least cell", x.seen(0, 1, 2), 0);
        c.due("P21 one set is seen: both surely", x.seen(0, 1, 1), 3);
    }
}
