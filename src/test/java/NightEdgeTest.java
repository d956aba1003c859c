import java.util.Random;

/** The bounds of NIGHTS and of what is DRAWN: promises 7, 8, 9, 22, 'Terms' 2 and 5. */
public final class NightEdgeTest {
    private static final int NONE = CityChords.NONE;
    private static final int MIN = Integer.MIN_VALUE;
    private static final int MAX = Integer.MAX_VALUE;
    private static final int[] NO_INDEX = {-1, -2, -3, 2, 3, 6, 40, MIN, MIN + 1, MAX};
    private static final String[] WORDS = {"stand", "free", "tell", "march", "walk", "go", "rest"};

    public static void main(String[] args) {
        Check c = new Check();
        deeds(c);
        stopBounds(c);
        whoIsThere(c);
        sidesAndWalls(c);
        stateBounds(c);
        stateBeyondStop(c);
        earsAndKinds(c);
        standing(c);
        fullHearing(c);
        drawnBounds(c);
        for (int seed = 0; seed < 300; seed++) {
            played(c, new Random(seed), seed);
        }
        c.close();
    }

    private static CityChords nightOf(String city, String night) {
        CityChords x = Check.cityOf(city);
        if (Check.tell(x, Check.NIGHT, night) != 0) {
            throw new IllegalStateException(night);
        }
        return x;
    }

    private static void deeds(Check c) {
        for (int many : new int[] {0, 1, 39, 40}) {
            StringBuilder text = new StringBuilder();
            for (int k = 0; k < many; k++) {
                int kind = k % 7;
                text.append(WORDS[kind]).append(kind == 6 ? "" : " " + k % 6).append(kind < 3 || kind == 6 ? "" : " " + k % 4).append(';');
            }
            CityChords x = new CityChords();
            Check.tell(x, Check.NIGHT, "rest;");
            Check.tell(x, Check.NIGHT, text.toString());
            c.due("P7 how many", x.deed(1, NONE, 0), many);
            for (int what : new int[] {1, 2, 3, -1, -2, MIN, MAX}) {
                c.due("P7 how many, what " + what, x.deed(1, NONE, what), -2);
            }
            for (int k = -4; k <= 42; k++) {
                for (int what = -2; what <= 4 && k != NONE; what++) {
                    boolean there = k >= 0 && k < many && what >= 0 && what <= 2;
                    int kind = Math.floorMod(k, 7);
                    int one = kind == 6 ? NONE : k % 6;
                    int two = kind < 3 || kind == 6 ? NONE : k % 4;
                    c.due("P7 deed " + k + " of " + many + ", " + what, x.deed(1, k, what),
                        !there ? -2 : what == 0 ? kind : what == 1 ? one : two);
                }
            }
            c.due("P7 deed max", x.deed(1, MAX, 0), -2);
            c.due("P7 deed min", x.deed(1, MIN, 0), -2);
            c.due("P7 what max", x.deed(0, 0, MAX), -2);
            c.due("P7 what min", x.deed(0, 0, MIN), -2);
            for (int night : NO_INDEX) {
                c.due("P7 night " + night, x.deed(night, NONE, 0), -2);
                c.due("P7 night " + night + " deed 0", x.deed(night, 0, 0), -2);
            }
        }
    }

    private static void stopBounds(Check c) {
        CityChords x = nightOf("horn 0 0;", "rest;");
        Check.tell(x, Check.NIGHT, "");
        Check.tell(x, Check.CITY, "");
        c.due("P8 city 0, night 0", x.stop(0, 0), 1);
        c.due("P8 city 1, night 1", x.stop(1, 1), 0);
        for (int k : NO_INDEX) {
            c.due("P8 city " + k, x.stop(k, 0), NONE);
            c.due("P8 night " + k, x.stop(0, k), NONE);
            c.due("P8 neither " + k, x.stop(k, k), NONE);
        }
        for (int at = 0; at <= 39; at++) {
            x = nightOf("horn 0 0;", "rest;".repeat(at) + "stand 1;" + "rest;".repeat(39 - at));
            c.due("P8 the first that can't be, " + at, x.stop(0, 0), at);
            c.due("P9 the state at it, " + at, x.state(0, 0, at, 40), 0);
            c.due("P9 no state behind it, " + at, x.state(0, 0, at + 1, 40), -2);
            c.due("P9 no state at the end, " + at, x.state(0, 0, 40, 40), -2);
        }
        x = nightOf("horn 0 0;", "rest;".repeat(40));
        c.due("P8 all forty can be", x.stop(0, 0), 40);
        c.due("P9 the state behind forty", x.state(0, 0, 40, 40), 0);
        c.due("P9 no state behind 41", x.state(0, 0, 41, 40), -2);
        x = nightOf("", "stand 0;stand 0;");
        c.due("P8 of two that can't be the first", x.stop(0, 0), 0);
    }

    /** A DEED can't be, if there is no such PLAYER, PERSON: from none to six of each. */
    private static void whoIsThere(Check c) {
        for (int many = 0; many <= 6; many++) {
            String city = "size 8 8;" + "horn 3 3;".repeat(many);
            String crowd = "size 8 8;" + "deaf 3 3;".repeat(many);
            for (int who = 0; who <= 5; who++) {
                int due = who < many ? 1 : 0;
                for (String deed : new String[] {"stand ", "free ", "tell "}) {
                    c.due("P8 " + deed + who + " of " + many, nightOf(city, deed + who + ";").stop(0, 0), due);
                    c.due("P8 " + deed + who + " of nobody", nightOf(crowd, deed + who + ";").stop(0, 0), 0);
                }
                for (int d = 0; d < 4; d++) {
                    String to = who + " " + d + ";";
                    c.due("P8 march " + to + " of " + many, nightOf(city, "march " + to).stop(0, 0), due);
                    c.due("P8 go " + to + " of " + many, nightOf(city, "go " + to).stop(0, 0), due);
                    c.due("P8 go " + to + " of nobody", nightOf(crowd, "go " + to).stop(0, 0), 0);
                    c.due("P8 walk " + to + " of " + many, nightOf(crowd, "walk " + to).stop(0, 0), due);
                    c.due("P8 walk " + to + " of nobody", nightOf(city, "walk " + to).stop(0, 0), 0);
                }
            }
            c.due("P8 rest of " + many, nightOf(city, "rest;").stop(0, 0), 1);
            c.due("P8 rest of nobody", nightOf("", "rest;").stop(0, 0), 1);
        }
    }

    /** walk and go can't be over a side or onto a WALL; a MARCH there is heard and OBEYED, and leads nowhere. */
    private static void sidesAndWalls(Check c) {
        int[] columns = {0, 1, 0, -1};
        int[] rows = {-1, 0, 1, 0};
        for (int wide = 2; wide <= 8; wide++) {
            int high = wide == 8 ? 8 : 10 - wide;
            for (int corner = 0; corner < 4; corner++) {
                int column = corner % 2 == 0 ? 0 : wide - 1;
                int row = corner / 2 == 0 ? 0 : high - 1;
                for (int d = 0; d < 4; d++) {
                    int toColumn = column + columns[d];
                    int toRow = row + rows[d];
                    boolean inside = toColumn >= 0 && toColumn < wide && toRow >= 0 && toRow < high;
                    int cell = wide * row + column;
                    int to = inside ? wide * toRow + toColumn : cell;
                    String at = " " + column + " " + row + ";";
                    String city = "size " + wide + " " + high + ";horn" + at + "thief" + at;
                    oneStep(c, city, d, inside, to, cell);
                    if (inside) {
                        oneStep(c, city + "wall " + toColumn + " " + toRow + ";", d, false, cell, cell);
                    }
                }
            }
        }
    }

    private static void oneStep(Check c, String city, int d, boolean can, int to, int cell) {
        String name = city + " to " + d + ": ";
        CityChords x = nightOf(city, "walk 0 " + d + ";rest;");
        c.due(name + "P8 walk", x.stop(0, 0), can ? 2 : 0);
        c.due(name + "P9 walked", x.state(0, 0, 1, 10), can ? to : -2);
        Check.tell(x, Check.NIGHT, "go 0 " + d + ";rest;", 0);
        c.due(name + "P8 go", x.stop(0, 0), can ? 2 : 0);
        c.due(name + "P9 gone", x.state(0, 0, 1, 40), can ? to : -2);
        c.due(name + "P9 the other is where he was", x.state(0, 0, 1, 10), can ? cell : -2);
        Check.tell(x, Check.NIGHT, "march 0 " + d + ";", 0);
        c.due(name + "P8 march", x.stop(0, 0), 1);
        c.due(name + "P9 marched", x.state(0, 0, 1, 10), to);
        c.due(name + "P9 the player is where he was", x.state(0, 0, 1, 40), cell);
        c.due(name + "P9 heard", x.state(0, 0, 1, 30), 1);
        c.due(name + "P9 heard last", x.state(0, 0, 1, 20), 3);
        c.due(name + "P9 obeyed", x.state(0, 0, 1, 2), 1);
    }

    private static void stateBounds(Check c) {
        for (int many = 0; many <= 6; many++) {
            int stop = many > 0 ? 3 : 1;
            CityChords x = null;
            for (int n = -2; n <= 5; n++) {
                x = nightOf("", "rest;stand 0;rest;");
                Check.tell(x, Check.CITY, "size 7 8;" + "horn 6 7;".repeat(many) + "thief 5 7;".repeat(6 - many));
                for (int what = -12; what <= 70; what++) {
                    int k = Math.floorMod(what, 10);
                    int due = what == 0 ? n >= 2 ? (1 << 6 - many) - 1 : 0 : what == 1 ? 0 : what == 2 ? n >= 2 ? 6 - many : 0 : -2;
                    if (what >= 10 && what < 40 && k < 6 - many) {
                        due = what < 20 ? 54 : what < 30 ? n == 2 ? 0 : NONE : n >= 2 ? 1 : 0;
                    } else if (what >= 40 && what < 50 && k < many) {
                        due = 55;
                    }
                    c.due("P9 state(1, 0, " + n + ", " + what + ") of " + many, x.state(1, 0, n, what), n < 0 || n > stop ? -2 : due);
                }
            }
            for (int wrong : new int[] {MIN, MIN + 10, MIN + 1, MAX, MAX - 7, -10, -20, 1000}) {
                c.due("P9 what " + wrong, x.state(1, 0, 0, wrong), -2);
                c.due("P9 n " + wrong, x.state(1, 0, wrong, 0), -2);
            }
            for (int k : NO_INDEX) {
                c.due("P9 city " + k, x.state(k, 0, 0, 0), -2);
            }
            for (int k : new int[] {1, -1, -2, 2, MIN, MAX}) {
                c.due("P9 night " + k, x.state(0, k, 0, 0), -2);
            }
        }
    }

    /** A STATE is told of up to STOP, even of one that is no longer changed behind it. */
    private static void stateBeyondStop(Check c) {
        CityChords x = nightOf("horn 0 0;citizen 1 0;", "march 0 1;go 0 3;march 0 1;rest;");
        c.due("P8 stop", x.stop(0, 0), 1);
        c.due("P9 state 0", x.state(0, 0, 0, 10), 1);
        c.due("P9 state 1", x.state(0, 0, 1, 10), 2);
        for (int n = 2; n <= 5; n++) {
            c.due("P9 no state " + n, x.state(0, 0, n, 10), -2);
        }
        c.due("P9 state 0 again", x.state(0, 0, 0, 10), 1);
        c.due("P6 the city is as told", x.city(0, 50), 1);
        x = nightOf("", "");
        c.due("P9 state 0 of no deeds", x.state(0, 0, 0, 0), 0);
        c.due("P9 no state 1 of no deeds", x.state(0, 0, 1, 0), -2);
    }

    private static void states(Check c, CityChords x, int n, int... pairs) {
        for (int k = 0; k < pairs.length; k += 2) {
            c.due("P9 state(0, 0, " + n + ", " + pairs[k] + ")", x.state(0, 0, n, pairs[k]), pairs[k + 1]);
        }
    }

    private static void earsAndKinds(Check c) {
        // Each COMMAND twice: the second is not another one; a MARCH in another DIRECTION is none either.
        for (int k = 0; k < 4; k++) {
            String deed = k == 3 ? "march 0 1;" : WORDS[k] + " 0;";
            String other = k == 3 ? "march 0 3;" : deed;
            String between = WORDS[(k + 1) % 3] + " 0;";
            CityChords x = nightOf("horn 0 0;citizen 1 1;", deed + other + "rest;" + deed + between + deed);
            states(c, x, 1, 2, 1, 30, 1, 20, k);
            states(c, x, 2, 2, 1, 30, 2, 20, k);
            states(c, x, 3, 2, 1, 30, 2, 20, NONE);
            states(c, x, 4, 2, 2, 30, 3, 20, k);
            states(c, x, 6, 2, 4, 30, 5, 20, k);
        }
        // The same COMMAND by another PLAYER is not another one.
        states(c, nightOf("horn 0 0;drum 0 0;citizen 1 1;", "stand 0;stand 1;"), 2, 2, 1, 30, 2);
        // A CHILD: STAND alone is not OBEYED, but HEARD.
        CityChords x = nightOf("horn 0 0;child 1 1;", "stand 0;free 0;tell 0;march 0 1;stand 0;march 0 1;");
        states(c, x, 1, 0, 0, 2, 0, 20, 0, 30, 1);
        states(c, x, 2, 2, 1, 20, 1);
        states(c, x, 3, 1, 0, 2, 2, 20, 2);
        states(c, x, 4, 2, 3, 10, 8);
        states(c, x, 5, 0, 0, 2, 3, 20, 0, 30, 5);
        states(c, x, 6, 2, 4, 10, 9, 30, 6);
        // A DEAF one HEARS nothing; a THIEF alone is TOLD of, and stays so.
        x = nightOf("horn 0 0;deaf 1 1;thief 1 1;citizen 1 1;child 1 1;", "tell 0;stand 0;march 0 1;rest;free 0;tell 0;");
        states(c, x, 1, 1, 2, 2, 3, 20, NONE, 30, 0);
        states(c, x, 2, 0, 6, 2, 5, 20, NONE);
        states(c, x, 3, 10, 7, 11, 7, 12, 7, 13, 8, 2, 8);
        states(c, x, 6, 0, 0, 1, 2, 30, 0, 31, 5);
        // What he HEARD last stays, while he does not hear.
        x = nightOf("size 8 2;fiddle 0 0;citizen 3 0;", "stand 0;free 0;walk 0 1;free 0;walk 0 3;free 0;stand 0;");
        states(c, x, 3, 2, 2, 20, 1, 30, 2, 10, 4);
        states(c, x, 4, 2, 2, 20, 1, 30, 2);
        states(c, x, 6, 2, 2, 20, 1, 30, 3);
        states(c, x, 7, 2, 3, 20, 0, 30, 4);
    }

    private static void standing(Check c) {
        CityChords x = nightOf("horn 0 0;citizen 1 1;deaf 3 3;", "stand 0;march 0 1;walk 1 1;walk 0 1;");
        c.due("P8 one who stands does not walk", x.stop(0, 0), 3);
        states(c, x, 2, 0, 1, 10, 7, 2, 2);
        states(c, x, 3, 11, 22);
        states(c, x, 4, 0, -2);
        x = nightOf("horn 0 0;citizen 1 1;", "stand 0;free 0;walk 0 1;march 0 1;stand 0;free 0;free 0;march 0 3;");
        c.due("P8 one who is free again walks", x.stop(0, 0), 8);
        states(c, x, 3, 0, 0, 10, 8);
        states(c, x, 4, 10, 9);
        states(c, x, 8, 10, 8, 2, 6);
        // Others may be there: all six at one CELL.
        x = nightOf("size 2 2;horn 0 0;" + "citizen 0 0;".repeat(3) + "citizen 1 0;".repeat(3), "march 0 1;");
        states(c, x, 1, 10, 1, 11, 1, 12, 1, 13, 1, 14, 1, 15, 1, 2, 6);
        // A PLAYER walks among them.
        x = nightOf("size 2 2;horn 0 0;flute 1 0;citizen 1 0;", "go 0 1;walk 0 3;go 1 3;");
        states(c, x, 3, 40, 1, 41, 0, 10, 0);
    }

    /** Forty DEEDS heard by all six. */
    private static void fullHearing(Check c) {
        CityChords x = nightOf("size 2 2;horn 0 0;" + "thief 1 1;".repeat(6), "stand 0;free 0;".repeat(20));
        c.due("P9 obeyed at most", x.state(0, 0, 40, 2), 240);
        states(c, x, 40, 0, 0, 1, 0, 30, 40, 35, 40, 36, -2);
        states(c, x, 39, 0, 63, 35, 39);
        x = nightOf("size 2 2;horn 0 0;" + "thief 1 1;".repeat(6), "tell 0;".repeat(40));
        states(c, x, 40, 0, 0, 1, 63, 2, 6, 30, 40);
    }

    private static void drawnBounds(Check c) {
        CityChords x = Check.cityOf("size 8 8;horn 7 7;thief 6 7;");
        Check.tell(x, Check.CITY, "");
        for (int n : new int[] {-1, -2, 61, 62, MIN, MAX}) {
            c.due("P22 n " + n, x.drawn(0, 1, n, 0), -2);
        }
        for (int what = -12; what <= 70; what++) {
            int[] due = {0, 0, 0};
            int at0 = what >= 0 && what < 3 ? due[what] : what == 10 ? 62 : what == 20 ? NONE : what == 30 ? 0 : what == 40 ? 63 : -2;
            c.due("P22 drawn no time, what " + what, x.drawn(0, 7, 0, what), at0);
            c.due("P22 drawn 60 times, what " + what + " is there", x.drawn(0, 7, 60, what) != -2, at0 != -2);
            c.due("P22 nobody there, what " + what, x.drawn(1, 7, 60, what), what >= 0 && what < 3 ? 0 : -2);
        }
        for (int what : new int[] {MIN, MAX, MIN + 10, 1000}) {
            c.due("P22 what " + what, x.drawn(0, 7, 60, what), -2);
        }
        for (int k : NO_INDEX) {
            c.due("P22 city " + k, x.drawn(k, 1, 0, 0), -2);
        }
        c.due("P22 the city is as told", x.city(0, 30), 63);
        // The first number is (12345 >>> 16) % 8 = 0, a STAND by the one PLAYER, (his number, x = 1103515245 * 12345 + 12345, aside).
        c.due("P22 seed 0: all stand", x.drawn(0, 0, 1, 0), 1);
        c.due("P22 seed 0: heard once", x.drawn(0, 0, 1, 30), 1);
        c.due("P22 seed 0: obeyed once", x.drawn(0, 0, 1, 2), 1);
        c.due("P22 seed 0: nobody there", x.drawn(1, 0, 1, 0), 0);
    }

    /** Cities and nights by seeds, and seeds of all kinds, against the document's words. */
    private static void played(Check c, Random random, int seed) {
        Plain city = new Plain(random, 8, seed % 4);
        CityChords x = Check.cityOf(city.text);
        StringBuilder text = new StringBuilder();
        int many = random.nextInt(5) == 0 ? 40 : random.nextInt(41);
        int[][] deeds = new int[many][3];
        for (int k = 0; k < many; k++) {
            int kind = random.nextInt(7);
            int players = Math.max(1, city.players.size());
            int people = Math.max(1, city.people.size());
            int who = kind == 6 ? NONE : random.nextInt(40) == 0 ? random.nextInt(6) : random.nextInt(kind == 4 ? people : players);
            deeds[k] = new int[] {kind, who, kind < 3 || kind == 6 ? NONE : random.nextInt(4)};
            text.append(WORDS[kind]).append(kind == 6 ? "" : " " + who).append(deeds[k][2] < 0 ? "" : " " + deeds[k][2]).append(';');
        }
        c.due(text + " text", Check.tell(x, Check.NIGHT, text.toString()), 0);
        PlainNight night = new PlainNight(city);
        int stop = 0;
        while (stop < many && night.act(deeds[stop][0], deeds[stop][1], deeds[stop][2])) {
            stop++;
        }
        c.due(city.text + text + " stop", x.stop(0, 0), stop);
        for (int what = 0; what < 50; what++) {
            c.due(city.text + text + " state " + what, x.state(0, 0, stop, what), night.state(what));
            c.due(city.text + text + " no state " + what, x.state(0, 0, stop + 1, what), -2);
        }
        int[] starts = {random.nextInt(), seed, -seed, MIN + seed, MAX - seed};
        int[] times = {60, 59, random.nextInt(61), 1, 2};
        for (int k = 0; k < 5; k++) {
            PlainNight drawn = new PlainNight(city);
            drawn.drawn(starts[k], times[k]);
            for (int what = 0; what < 50; what++) {
                c.due(city.text + " drawn " + starts[k] + " " + times[k] + " " + what, x.drawn(0, starts[k], times[k], what),
                    drawn.state(what));
            }
        }
    }
}
