/** An object that has been told of all sorts, and all that can be seen of an object. */
final class World {
    static final String CITY = "size 3 2;wall 1 1;wind 1;value tell 9;value stand 0;horn 0 0;flute 2 1;thief 2 0;deaf 0 1;";
    static final String NIGHT = "stand 0;march 1 2;free 0;walk 0 3;go 1 0;rest;";
    static final String TRIAL = "voices 3;thieves 1;says 0 1;denies 2 2;";
    static final String SIGHT = "loud 0 0;quiet 2 1;";
    static final String TAPE = "loud 3 1;quiet 0 2;\n";

    private World() {
    }

    /** One of each sort, a FAULT 2 at place 5, a tape of 20 bytes. */
    static CityChords one() {
        CityChords x = new CityChords();
        Check.tell(x, Check.CITY, CITY);
        Check.tell(x, Check.NIGHT, NIGHT);
        Check.tell(x, Check.TRIAL, TRIAL);
        Check.tell(x, Check.SIGHT, SIGHT);
        Check.tell(x, Check.CITY, "wind 7;");
        Check.put(x, TAPE);
        return x;
    }

    /** Two of each sort, and the same FAULT and tape. */
    static CityChords two() {
        CityChords x = one();
        Check.tell(x, Check.CITY, "size 2 2;fiddle 1 1;child 0 0;");
        Check.tell(x, Check.NIGHT, "rest;tell 0;");
        Check.tell(x, Check.TRIAL, "voices 1;");
        Check.tell(x, Check.SIGHT, "");
        Check.tell(x, Check.CITY, "wind 7;", 0);
        Check.put(x, TAPE);
        return x;
    }

    /** A city of 8 by 8 in which one goes along every second row, by a gate at the right, then at the left, and so on. */
    static String snake() {
        StringBuilder all = new StringBuilder("size 8 8;");
        for (int row = 1; row < 8; row += 2) {
            for (int column = 0; column < 8; column++) {
                if (column != (row % 4 == 1 ? 7 : 0)) {
                    all.append("wall").append(column).append(' ').append(row).append(';');
                }
            }
        }
        return all.toString();
    }

    /** All that can be seen, in some 150 calls for small texts; image 2 is taken. The tape is to be of 580 bytes at most. */
    static String whole(CityChords x) {
        return seen(x) + tape(x);
    }

    /** All but the tape. */
    static String seen(CityChords x) {
        StringBuilder all = new StringBuilder();
        all.append("fault ").append(x.fault(0)).append(' ').append(x.fault(1));
        for (int k = 0; k < x.count(Check.CITY); k++) {
            all.append("\ncity ").append(k).append(':');
            for (int what : new int[] {0, 1, 2, 3, 4, 10, 11, 12, 13, 20, 21, 30, 31, 40, 41, 50, 51}) {
                all.append(' ').append(x.city(k, what));
            }
            for (int cell = 0; x.city(k, 100 + cell) >= 0; cell++) {
                all.append(x.city(k, 100 + cell) == 1 ? " #" : " .");
            }
        }
        for (int k = 0; k < x.count(Check.NIGHT); k++) {
            all.append("\nnight ").append(k).append(':');
            for (int row = 0; row < x.deed(k, -1, 0); row++) {
                all.append(' ').append(x.deed(k, row, 0)).append(' ').append(x.deed(k, row, 1)).append(' ').append(x.deed(k, row, 2));
            }
        }
        for (int k = 0; k < x.count(Check.TRIAL); k++) {
            all.append("\ntrial ").append(k).append(": ").append(x.trial(k, 0)).append(' ').append(x.trial(k, 1));
            for (int row = 0; row < x.trial(k, 2); row++) {
                all.append(' ').append(x.trial(k, 10 + row)).append(x.trial(k, 30 + row)).append(x.trial(k, 50 + row));
            }
        }
        for (int k = 0; k < x.count(Check.SIGHT); k++) {
            all.append("\nsight ").append(k).append(':');
            for (int row = 0; row < x.fact(k, -1, 0); row++) {
                all.append(' ').append(x.fact(k, row, 0)).append(x.fact(k, row, 1)).append(x.fact(k, row, 2));
            }
        }
        return all.toString();
    }

    /** The tape's length, and what it tells as a SIGHT's text; all is as it was behind this, but image 2. */
    private static String tape(CityChords x) {
        x.image(2);
        StringBuilder all = new StringBuilder("\ntape ").append(x.feed(0, 0, 0, 0, 0) - 20);
        x.again(2);
        int sight = x.text(Check.SIGHT, x.count(Check.SIGHT) == 0 ? -1 : 0);
        all.append(": ").append(sight).append(' ').append(x.fault(1));
        for (int row = 0; row < x.fact(0, -1, 0); row++) {
            all.append(' ').append(x.fact(0, row, 0)).append(x.fact(0, row, 1)).append(x.fact(0, row, 2));
        }
        x.again(2);
        return all.toString();
    }
}
