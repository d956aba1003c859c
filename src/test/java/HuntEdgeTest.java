import java.util.HashMap;
import java.util.Map;
import java.util.Random;

/** The bounds of GATHER, CHASE and PROGRAMME: promises 13, 14, 15. */
public final class HuntEdgeTest {
    private static final int NONE = CityChords.NONE;
    private static final int MIN = Integer.MIN_VALUE;
    private static final int MAX = Integer.MAX_VALUE;
    private static final int[] NO_INDEX = {-1, -2, -3, 2, 3, 6, 64, MIN, MIN + 1, MAX};
    private static final String[] COMMANDS = {"stand", "free", "tell", "march"};

    public static void main(String[] args) {
        Check c = new Check();
        gatherBounds(c);
        gatherEnds(c);
        gatherKinds(c);
        gatherDirections(c);
        chaseBounds(c);
        chaseEnds(c);
        programmeBounds(c);
        worn(c);
        programmesOfAllLengths(c);
        c.close();
    }

    private static void gatherBounds(Check c) {
        for (int players = 0; players <= 6; players++) {
            for (int people = 0; people <= 6; people++) {
                CityChords x = Check.citiesOf("", "size 2 2;" + "horn 0 0;".repeat(players) + "thief 0 0;".repeat(people));
                for (int k = -2; k <= 7; k++) {
                    boolean player = k >= 0 && k < players;
                    boolean person = k >= 0 && k < people;
                    c.due("P13 player " + k + " of " + players, x.gather(1, k, 0, 1, false), player && people > 1 ? 0 : NONE);
                    c.due("P13 person a " + k + " of " + people, x.gather(1, 0, k, 0, false),
                        person && k != 0 && players > 0 ? 0 : NONE);
                    c.due("P13 person b " + k + " of " + people, x.gather(1, 0, 0, k, false),
                        person && k != 0 && players > 0 ? 0 : NONE);
                    c.due("P13 both are one " + k, x.gather(1, 0, k, k, false), NONE);
                    c.due("P13 both are one, direction " + k, x.gather(1, 0, k, k, true), NONE);
                }
            }
        }
        CityChords x = Check.citiesOf("size 2 2;horn 0 0;thief 0 0;thief 1 0;", "size 2 2;horn 0 0;thief 0 0;thief 1 0;");
        for (int k : NO_INDEX) {
            c.due("P13 city " + k, x.gather(k, 0, 0, 1, false), NONE);
            c.due("P13 player " + k, x.gather(0, k, 0, 1, false), NONE);
            c.due("P13 person a " + k, x.gather(0, 0, k, 1, false), NONE);
            c.due("P13 person b " + k, x.gather(0, 0, 0, k, true), NONE);
        }
        c.due("P13 city 1", x.gather(1, 0, 0, 1, false), 1);
    }

    private static void gather(Check c, String city, int many, int direction) {
        CityChords x = Check.cityOf(city);
        c.due("P13 " + city, x.gather(0, 0, 0, 1, false), many);
        c.due("P13 " + city + " to", x.gather(0, 0, 0, 1, true), direction);
        c.due("P13 " + city + " turned", x.gather(0, 0, 1, 0, false), many);
        c.due("P13 " + city + " turned, to", x.gather(0, 0, 1, 0, true), direction);
    }

    private static void gatherEnds(Check c) {
        gather(c, "size 2 2;horn 0 0;citizen 1 1;citizen 1 1;", 0, NONE);
        gather(c, "size 8 8;fiddle 0 0;citizen 7 7;citizen 7 7;", 0, NONE);
        // None hears, none goes; one alone hears, and is marched to the other.
        gather(c, "size 8 8;fiddle 0 0;citizen 7 7;citizen 6 7;", NONE, NONE);
        gather(c, "size 8 2;fiddle 0 0;citizen 3 0;citizen 4 0;", 1, 1);
        gather(c, "size 8 2;fiddle 0 0;citizen 4 0;citizen 4 1;", NONE, NONE);
        gather(c, "size 8 2;fiddle 0 0;citizen 3 0;citizen 5 0;", NONE, NONE);
        // Apart in different parts of the city.
        gather(c, "size 3 2;horn 0 0;citizen 0 1;citizen 2 0;wall 1 0;wall 1 1;", NONE, NONE);
        // Both go as one, but for sides: the one at the side waits.
        gather(c, "size 8 2;horn 0 0;citizen 0 0;citizen 7 0;", 7, 1);
        gather(c, "size 8 2;horn 0 0;citizen 0 0;citizen 7 1;", 8, 0);
        // A WALL to wait at.
        gather(c, "size 5 2;horn 0 0;citizen 0 1;citizen 1 1;wall 2 1;", 1, 1);
    }

    private static void gatherKinds(Check c) {
        String[] kinds = {"citizen", "thief", "child", "deaf"};
        for (String one : kinds) {
            for (String other : kinds) {
                gather(c, "size 4 2;horn 0 0;" + one + " 1 0;" + other + " 3 0;", 2, 1);
            }
        }
    }

    /** Of several the least DIRECTION; each alone, where it is the only one. */
    private static void gatherDirections(Check c) {
        gather(c, "size 2 3;horn 0 0;citizen 0 0;citizen 0 1;", 1, 0);
        gather(c, "size 3 2;horn 0 0;citizen 1 0;citizen 2 0;", 1, 1);
        gather(c, "size 2 3;horn 0 0;citizen 0 2;citizen 0 1;", 1, 2);
        gather(c, "size 3 2;horn 0 0;citizen 1 0;citizen 0 0;", 1, 3);
        gather(c, "size 2 2;horn 0 0;citizen 0 0;citizen 0 1;", 1, 0);
        gather(c, "size 2 2;horn 0 0;citizen 0 0;citizen 1 0;", 1, 1);
        gather(c, "size 2 2;horn 0 0;citizen 0 0;citizen 1 1;", 2, 0);
        gather(c, "size 2 3;horn 0 0;citizen 0 0;citizen 1 2;wall 0 1;", 3, 0);
    }

    private static void chaseBounds(Check c) {
        for (int many = 0; many <= 6; many++) {
            CityChords x = Check.citiesOf("", "size 2 2;" + "horn 1 1;".repeat(many) + "thief 1 1;".repeat(6 - many));
            for (int k = -2; k <= 7; k++) {
                c.due("P14 player " + k + " of " + many, x.chase(1, k, 0), k >= 0 && k < many && many < 6 ? 0 : NONE);
                c.due("P14 person " + k + " of " + (6 - many), x.chase(1, 0, k), k >= 0 && k < 6 - many && many > 0 ? 0 : NONE);
            }
        }
        CityChords x = Check.citiesOf("size 2 2;horn 0 0;thief 0 0;", "size 2 2;horn 0 0;thief 0 1;");
        for (int k : NO_INDEX) {
            c.due("P14 city " + k, x.chase(k, 0, 0), NONE);
            c.due("P14 player " + k, x.chase(0, k, 0), NONE);
            c.due("P14 person " + k, x.chase(0, 0, k), NONE);
        }
        c.due("P14 city 1", x.chase(1, 0, 0), 1);
    }

    private static void chase(Check c, String city, int due) {
        c.due("P14 " + city, Check.cityOf(city).chase(0, 0, 0), due);
        for (String kind : new String[] {"citizen", "child", "deaf"}) {
            c.due("P14 " + city + " of a " + kind, Check.cityOf(city.replace("thief", kind)).chase(0, 0, 0), due);
        }
    }

    private static void chaseEnds(Check c) {
        chase(c, "size 8 8;horn 3 3;thief 3 3;", 0);
        chase(c, "size 8 8;horn 3 3;thief 3 4;", 1);
        chase(c, "size 8 8;horn 3 3;thief 4 4;", NONE);
        chase(c, "size 2 2;horn 0 0;thief 1 1;", NONE);
        // Three cells of four: a way with two ends.
        chase(c, "size 2 2;horn 0 0;thief 1 1;wall 1 0;", 2);
        chase(c, "size 2 2;horn 0 1;thief 1 1;wall 1 0;", 1);
        chase(c, "size 2 2;horn 1 1;thief 0 0;wall 1 0;", 2);
        // Shut in on either side.
        chase(c, "size 3 2;horn 0 0;thief 2 0;wall 1 0;wall 1 1;", NONE);
        chase(c, "size 2 2;horn 0 0;thief 1 1;wall 1 0;wall 0 1;", NONE);
        chase(c, "size 2 2;horn 0 0;thief 0 0;wall 1 0;wall 0 1;", 0);
        // The longest alley in one row: seven turns, and six from the next cell but one of its end.
        String row = "wall 0 1;wall 1 1;wall 2 1;wall 3 1;wall 4 1;wall 5 1;wall 6 1;wall 7 1;";
        for (int at = 1; at <= 7; at++) {
            chase(c, "size 8 2;" + row + "horn 0 0;thief " + at + " 0;", at == 1 ? 1 : 7);
        }
        String snake = World.snake();
        chase(c, snake + "horn 0 0;thief 0 6;", 35);
        chase(c, snake + "horn 0 0;thief 2 0;", 35);
        chase(c, snake + "horn 0 0;thief 1 0;", 1);
    }

    private static void programmeBounds(Check c) {
        CityChords x = Check.citiesOf("value stand 9;value free 0;value tell 0;value march 0;", "");
        for (int n = -3; n <= 15; n++) {
            for (int k = -5; k <= 15; k++) {
                boolean there = n >= 0 && n <= 12 && k >= -2 && k < n;
                // Without anything told, two COMMANDS by turns bring 3 each time.
                c.due("P15 programme(1, " + n + ", " + k + ")", x.programme(1, n, k), !there ? NONE : k < 0 ? 3 * n : k % 2);
            }
        }
        for (int wrong : new int[] {MIN, MIN + 1, MAX, MAX - 1, -3, 100}) {
            c.due("P15 n " + wrong, x.programme(0, wrong, NONE), NONE);
            c.due("P15 n " + wrong + " habit", x.programme(0, wrong, -2), NONE);
            c.due("P15 k " + wrong, x.programme(0, 12, wrong), NONE);
        }
        for (int k : NO_INDEX) {
            c.due("P15 city " + k, x.programme(k, 3, NONE), NONE);
            c.due("P15 city " + k + " habit", x.programme(k, 3, -2), NONE);
            c.due("P15 city " + k + " command", x.programme(k, 3, 0), NONE);
        }
    }

    /** WORN by 4 at most; a VALUE less what it is WORN by is 0 at least; others are WORN by 1 less, 0 at least. */
    private static void worn(Check c) {
        int[] brings = {9, 8, 7, 6, 5, 5, 5, 5, 5, 5, 5, 5};
        for (int command = 0; command < 4; command++) {
            for (int value = 0; value <= 9; value++) {
                StringBuilder text = new StringBuilder();
                for (int k = 0; k < 4; k++) {
                    text.append("value ").append(COMMANDS[k]).append(' ').append(k == command ? value : 0).append(';');
                }
                CityChords x = Check.cityOf(text.toString());
                int habit = 0;
                for (int n = 0; n <= 12; n++) {
                    int best = plain(new int[] {command == 0 ? value : 0, command == 1 ? value : 0, command == 2 ? value : 0,
                        command == 3 ? value : 0}, n, false);
                    c.due("P15 value " + value + " alone, " + n, x.programme(0, n, NONE), best);
                    c.due("P15 value " + value + " alone by habit, " + n, x.programme(0, n, -2), habit);
                    // Every second time it is as at first.
                    habit += n % 2 == 0 ? value : 0;
                }
            }
        }
        CityChords x = Check.cityOf("value stand 9;value free 0;value tell 0;value march 0;");
        int sum = 0;
        for (int n = 1; n <= 12; n++) {
            sum += brings[n - 1];
            c.due("P15 worn by 4 at most, " + n, x.programme(0, n, NONE), sum);
            c.due("P15 the last command, " + n, x.programme(0, n, n - 1), 0);
        }
    }

    private static final Map<Integer, Integer> KNOWN = new HashMap<>();

    /** By the document's words: what n minutes bring at most. */
    private static int plain(int[] value, int n, boolean habit) {
        KNOWN.clear();
        return plain(value, n, new int[4], habit, 4);
    }

    private static int plain(int[] value, int n, int[] worn, boolean habit, int last) {
        if (n == 0) {
            return 0;
        }
        int key = ((((n * 5 + worn[0]) * 5 + worn[1]) * 5 + worn[2]) * 5 + worn[3]) * 5 + (habit ? last : 4);
        Integer known = KNOWN.get(key);
        if (known != null) {
            return known;
        }
        int best = -1;
        for (int command = 0; command < 4; command++) {
            if (!habit || command != last) {
                best = Math.max(best, Math.max(0, value[command] - worn[command])
                    + plain(value, n - 1, after(worn, command), habit, command));
            }
        }
        KNOWN.put(key, best);
        return best;
    }

    private static int[] after(int[] worn, int command) {
        int[] then = new int[4];
        for (int k = 0; k < 4; k++) {
            then[k] = k == command ? Math.min(4, worn[k] + 1) : Math.max(0, worn[k] - 1);
        }
        return then;
    }

    private static void programmesOfAllLengths(Check c) {
        Random random = new Random(1);
        for (int run = 0; run < 60; run++) {
            int[] value = new int[4];
            StringBuilder text = new StringBuilder();
            for (int k = 0; k < 4; k++) {
                value[k] = run < 10 ? run : run < 30 ? random.nextInt(3) * 9 / 2 : random.nextInt(10);
                text.append("value ").append(COMMANDS[k]).append(' ').append(value[k]).append(';');
            }
            CityChords x = Check.cityOf(text.toString());
            for (int n = 0; n <= 12; n++) {
                c.due("P15 " + text + n, x.programme(0, n, NONE), plain(value, n, false));
                c.due("P15 " + text + n + " by habit", x.programme(0, n, -2), plain(value, n, true));
            }
            firstRow(c, x, text.toString(), value, 12);
            firstRow(c, x, text.toString(), value, 1 + run % 12);
        }
    }

    /** At each minute the least COMMAND by which the most can still be brought. */
    private static void firstRow(Check c, CityChords x, String text, int[] value, int n) {
        int[] worn = new int[4];
        KNOWN.clear();
        for (int k = 0; k < n; k++) {
            int most = plain(value, n - k, worn, false, 4);
            int command = 0;
            while (Math.max(0, value[command] - worn[command]) + plain(value, n - k - 1, after(worn, command), false, 4) < most) {
                command++;
            }
            c.due("P15 " + text + n + " command " + k, x.programme(0, n, k), command);
            worn = after(worn, command);
        }
    }
}
