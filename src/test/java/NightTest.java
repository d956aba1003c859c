/** Promises 7, 8, 9, 22: deed, stop, state, drawn. */
public final class NightTest {
    private static final int NONE = CityChords.NONE;

    public static void main(String[] args) {
        Check c = new Check();
        deeds(c);
        oneNight(c);
        kinds(c);
        ears(c);
        standing(c);
        one(c);
        stops(c);
        soundInNights(c);
        drawn(c);
        c.close();
    }

    private static void states(Check c, CityChords x, int n, int... pairs) {
        for (int k = 0; k < pairs.length; k += 2) {
            c.due("state(0, 0, " + n + ", " + pairs[k] + ")", x.state(0, 0, n, pairs[k]), pairs[k + 1]);
        }
    }

    private static CityChords nightOf(String city, String night) {
        CityChords x = Check.cityOf(city);
        if (Check.tell(x, Check.NIGHT, night) != 0) {
            throw new IllegalStateException(night);
        }
        return x;
    }

    private static void deeds(Check c) {
        CityChords x = nightOf("", "stand 0;free 1;tell 2;march 3 1;walk 4 2;go 5 3;rest;");
        int[][] due = {{0, 0, NONE}, {1, 1, NONE}, {2, 2, NONE}, {3, 3, 1}, {4, 4, 2}, {5, 5, 3}, {6, NONE, NONE}};
        c.due("deeds", x.deed(0, NONE, 0), 7);
        c.due("deeds what 1", x.deed(0, NONE, 1), -2);
        c.due("deeds what -1", x.deed(0, NONE, -1), -2);
        for (int k = 0; k < 7; k++) {
            for (int what = 0; what < 3; what++) {
                c.due("deed " + k + " " + what, x.deed(0, k, what), due[k][what]);
            }
            c.due("deed what 3", x.deed(0, k, 3), -2);
            c.due("deed what -1", x.deed(0, k, -1), -2);
        }
        c.due("deed 7", x.deed(0, 7, 0), -2);
        c.due("deed -2", x.deed(0, -2, 0), -2);
        c.due("night 1", x.deed(1, 0, 0), -2);
        c.due("night -1", x.deed(-1, NONE, 0), -2);
        c.due("empty night", Check.tell(x, Check.NIGHT, ""), 1);
        c.due("its deeds", x.deed(1, NONE, 0), 0);
        c.due("its deed 0", x.deed(1, 0, 0), -2);
        c.due("its stop", x.stop(0, 1), 0);
    }

    private static void oneNight(Check c) {
        // A horn in the corner is heard by all of a city of 4 by 3.
        CityChords x = nightOf("size 4 3;horn 0 0;citizen 0 1;thief 1 0;child 3 0;deaf 0 2;wall 2 1;",
            "stand 0;march 0 2;free 0;march 0 2;tell 0;rest;tell 0;walk 3 0;go 0 1;");
        c.due("stop", x.stop(0, 0), 9);
        states(c, x, 0, 0, 0, 1, 0, 2, 0, 10, 4, 11, 1, 12, 3, 13, 8, 20, NONE, 23, NONE, 30, 0, 40, 0);
        states(c, x, 1, 0, 3, 2, 2, 20, 0, 21, 0, 22, 0, 23, NONE, 30, 1, 31, 1, 32, 1, 33, 0);
        // The child hears STAND, but goes; the others stand, though they obey.
        states(c, x, 2, 0, 3, 2, 5, 10, 4, 11, 1, 12, 7, 13, 8, 20, 3, 22, 3);
        states(c, x, 3, 0, 0, 2, 8);
        states(c, x, 4, 2, 11, 10, 8, 11, 5, 12, 11, 13, 8);
        states(c, x, 5, 1, 2, 2, 14, 30, 5, 33, 0);
        states(c, x, 6, 1, 2, 2, 14, 20, NONE, 21, NONE, 22, NONE, 30, 5);
        states(c, x, 7, 1, 2, 2, 17, 20, 2, 30, 6);
        states(c, x, 8, 13, 4);
        states(c, x, 9, 40, 1, 41, -2, 14, -2, 24, -2, 34, -2, 50, -2, 3, -2, 9, -2, -1, -2);
        states(c, x, 9, Integer.MAX_VALUE, -2, Integer.MIN_VALUE, -2, 19, -2, 49, -2, 60, -2, 100, -2);
        states(c, x, 10, 0, -2);
        states(c, x, -1, 0, -2);
        states(c, x, Integer.MAX_VALUE, 0, -2);
        c.due("no city", x.state(1, 0, 0, 0), -2);
        c.due("no night", x.state(0, 1, 0, 0), -2);
        c.due("no city stop", x.stop(1, 0), NONE);
        c.due("no night stop", x.stop(0, 1), NONE);
        c.due("told city stays", x.city(0, 50), 4);
    }

    private static void kinds(Check c) {
        CityChords x = nightOf("horn 0 0;citizen 0 0;thief 0 0;child 0 0;deaf 0 0;",
            "tell 0;stand 0;stand 0;march 0 1;march 0 1;free 0;march 0 1;");
        states(c, x, 1, 1, 2, 2, 3);
        states(c, x, 2, 0, 3, 2, 5);
        // The child heard STAND: a second one is not another one, but it never obeyed it anyway.
        states(c, x, 3, 0, 3, 2, 5, 30, 3, 32, 3);
        states(c, x, 4, 2, 8, 10, 0, 11, 0, 12, 1, 13, 0);
        states(c, x, 5, 2, 8, 12, 1);
        states(c, x, 7, 2, 14, 10, 1, 11, 1, 12, 2, 13, 0);
    }

    private static void ears(Check c) {
        CityChords x = nightOf("horn 0 0;drum 0 0;citizen 1 1;",
            "march 0 1;march 1 2;rest;march 1 2;stand 0;stand 1;rest;stand 1;");
        states(c, x, 1, 2, 1, 10, 8);
        states(c, x, 2, 2, 1, 10, 8, 30, 2);
        states(c, x, 4, 2, 2, 10, 14);
        states(c, x, 6, 2, 3, 0, 1, 30, 5);
        states(c, x, 8, 2, 4, 0, 1, 30, 6);
    }

    private static void standing(Check c) {
        CityChords x = nightOf("horn 0 0;citizen 1 1;thief 1 1;wall 1 0;", "march 0 0;rest;march 0 3;rest;march 0 3;");
        // There is a WALL above; others may be there.
        states(c, x, 1, 2, 2, 10, 7, 11, 7);
        states(c, x, 3, 2, 4, 10, 6, 11, 6);
        states(c, x, 5, 2, 6, 10, 6, 11, 6);
    }

    /** What one does is done by him alone. */
    private static void one(Check c) {
        CityChords x = nightOf("size 8 2;fiddle 0 0;fiddle 7 0;thief 0 0;thief 7 0;citizen 6 0;",
            "stand 0;stand 1;free 0;tell 1;tell 0;free 1;");
        states(c, x, 1, 0, 1);
        states(c, x, 2, 0, 7);
        states(c, x, 3, 0, 6);
        states(c, x, 4, 0, 6, 1, 2);
        states(c, x, 5, 1, 3);
        states(c, x, 6, 0, 0, 1, 3, 2, 9);
    }

    private static void stops(Check c) {
        String city = "horn 0 0;citizen 5 0;wall 0 1;thief 1 1;";
        stop(c, city, "rest;stand 1;rest;", 1);
        stop(c, city, "walk 2 0;", 0);
        stop(c, city, "walk 0 0;", 0);
        stop(c, city, "walk 0 1;", 0);
        stop(c, city, "walk 1 3;", 0);
        stop(c, city, "go 0 2;", 0);
        stop(c, city, "go 0 3;", 0);
        stop(c, city, "go 0 1;go 0 2;go 0 3;", 2);
        stop(c, city, "stand 0;walk 1 0;", 1);
        stop(c, city, "stand 0;free 0;walk 1 0;", 3);
        stop(c, city, "go 1 1;", 0);
        stop(c, city, "", 0);
        stop(c, city, "rest;".repeat(40), 40);
        stop(c, "", "rest;stand 0;", 1);
        stop(c, "", "rest;walk 0 0;", 1);
        CityChords x = nightOf(city, "go 0 1;stand 1;rest;");
        states(c, x, 1, 40, 1);
        states(c, x, 2, 40, -2);
    }

    private static void stop(Check c, String city, String night, int due) {
        CityChords x = nightOf(city, night);
        c.due(city + " " + night + " stop", x.stop(0, 0), due);
        c.due(city + " " + night + " state at stop", x.state(0, 0, due, 2) >= 0, true);
        c.due(city + " " + night + " state behind stop", x.state(0, 0, due + 1, 2), -2);
    }

    private static void soundInNights(Check c) {
        // A fiddle is heard 3 off: it goes nearer.
        CityChords x = nightOf("fiddle 0 0;citizen 4 0;", "stand 0;go 0 1;stand 0;");
        states(c, x, 1, 0, 0, 30, 0, 20, NONE);
        states(c, x, 3, 0, 1, 30, 1, 20, 0);
        x = nightOf("fiddle 0 0;citizen 3 0;", "march 0 1;rest;march 0 3;");
        states(c, x, 1, 10, 4);
        states(c, x, 3, 10, 4, 30, 1);
    }

    /** The plain words of the document: a number below n. */
    private static int seed;

    private static int below(int n) {
        seed = seed * 1103515245 + 12345;
        return (seed >>> 16) % n;
    }

    private static void drawn(Check c) {
        String city = "size 5 4;wall 2 2;horn 0 0;flute 4 3;citizen 1 1;thief 3 3;child 4 0;deaf 0 3;wind 2;";
        int[] whats = {0, 1, 2, 10, 11, 12, 13, 20, 21, 22, 23, 30, 31, 32, 33, 40, 41, 14, 42, 3, 50, -1};
        for (int start = -5; start < 60; start++) {
            int n = Math.floorMod(start * 7, 61);
            CityChords x = nightOf(city, "");
            seed = start * 77777777;
            StringBuilder night = new StringBuilder();
            for (int k = 0; k < n; k++) {
                x = nightOf(city, "");
                int kind = below(8);
                String line = kind == 7 ? "rest;" : null;
                if (kind < 3) {
                    line = new String[] {"stand ", "free ", "tell "}[kind] + below(2) + ";";
                } else if (kind < 5) {
                    line = "march " + below(2) + " " + below(4) + ";";
                } else if (kind == 5) {
                    line = "walk " + below(4) + " " + below(4) + ";";
                } else if (kind == 6) {
                    line = "go " + below(2) + " " + below(4) + ";";
                }
                Check.tell(x, Check.NIGHT, night + line, 0);
                int many = x.deed(0, NONE, 0);
                if (many <= 40 && x.fault(0) == 0 && x.stop(0, 0) == many) {
                    night.append(line);
                }
                if (x.fault(0) != 0) {
                    n = k;
                }
            }
            Check.tell(x, Check.NIGHT, night.toString(), 0);
            for (int what : whats) {
                int due = x.state(0, 0, x.stop(0, 0), what);
                c.due("drawn(0, " + start * 77777777 + ", " + n + ", " + what + ")",
                    x.drawn(0, start * 77777777, n, what), due);
            }
        }
        CityChords x = Check.cityOf(city);
        c.due("drawn 0 times", x.drawn(0, 5, 0, 10), 6);
        c.due("drawn -1 times", x.drawn(0, 5, -1, 10), -2);
        c.due("drawn 60 times", x.drawn(0, 5, 60, 3), -2);
        c.due("drawn 60 times, obeyed", x.drawn(0, 5, 60, 2) >= 0, true);
        c.due("drawn 61 times", x.drawn(0, 5, 61, 2), -2);
        c.due("drawn in no city", x.drawn(1, 5, 0, 2), -2);
        drawnOfNobody(c);
    }

    /** With no players only walks and rests are done, and nothing more is drawn for the others. */
    private static void drawnOfNobody(Check c) {
        for (int start = 0; start < 40; start++) {
            CityChords x = Check.cityOf("thief 2 2;");
            seed = start;
            int cell = 14;
            for (int k = 0; k < 30; k++) {
                if (below(8) == 5) {
                    below(1);
                    int d = below(4);
                    boolean may = d == 0 ? cell >= 6 : d == 1 ? cell % 6 < 5 : d == 2 ? cell < 30 : cell % 6 > 0;
                    cell += may ? new int[] {-6, 1, 6, -1}[d] : 0;
                }
            }
            c.due("a walk by seed " + start, x.drawn(0, start, 30, 10), cell);
            c.due("nobody by seed " + start, Check.cityOf("").drawn(0, start, 60, 2), 0);
            x = Check.cityOf("drum 2 2;");
            seed = start;
            cell = 14;
            for (int k = 0; k < 30; k++) {
                int kind = below(8);
                if (kind != 5 && kind != 7) {
                    below(1);
                    int d = kind == 3 || kind == 4 || kind == 6 ? below(4) : 0;
                    boolean may = d == 0 ? cell >= 6 : d == 1 ? cell % 6 < 5 : d == 2 ? cell < 30 : cell % 6 > 0;
                    cell += may && kind == 6 ? new int[] {-6, 1, 6, -1}[d] : 0;
                }
            }
            c.due("a player by seed " + start, x.drawn(0, start, 30, 40), cell);
        }
    }
}
