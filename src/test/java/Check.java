/** Counts the answers that are not as due, and brings texts onto an object's tape. */
final class Check {
    static final int CITY = 0;
    static final int NIGHT = 1;
    static final int TRIAL = 2;
    static final int SIGHT = 3;

    private int asked = 0;
    private int wrong = 0;

    void due(String call, long got, long want) {
        asked++;
        if (got != want) {
            wrong++;
            if (wrong <= 40) {
                System.out.println(call + " answered " + got + ", due is " + want);
            }
        }
    }

    void due(String call, boolean got, boolean want) {
        due(call, got ? 1 : 0, want ? 1 : 0);
    }

    /** Ends the test: exit code 1, if an answer was not as due. */
    void close() {
        System.out.println(asked + " answers, " + wrong + " wrong");
        if (wrong != 0 || asked == 0) {
            System.exit(1);
        }
    }

    /** The tape has these bytes alone then. */
    static void put(CityChords x, String text) {
        x.end(0);
        for (int at = 0; at < text.length(); at += 20) {
            int[] part = new int[5];
            for (int k = 0; k < 20; k++) {
                int sign = at + k < text.length() ? text.charAt(at + k) : 0;
                part[k / 4] = part[k / 4] << 8 | sign;
            }
            x.feed(part[0], part[1], part[2], part[3], part[4]);
        }
        x.end(text.length());
    }

    static int tell(CityChords x, int sort, String text) {
        put(x, text);
        return x.text(sort, CityChords.NONE);
    }

    static int tell(CityChords x, int sort, String text, int at) {
        put(x, text);
        return x.text(sort, at);
    }

    /** An object with one CITY. */
    static CityChords cityOf(String text) {
        CityChords x = new CityChords();
        if (tell(x, CITY, text) != 0) {
            throw new IllegalStateException("no city: " + text + " fault " + x.fault(0) + " at " + x.fault(1));
        }
        return x;
    }

    /** Two CITIES: index 0 and 1 are there, no other is. */
    static CityChords citiesOf(String first, String second) {
        CityChords x = cityOf(first);
        if (tell(x, CITY, second) != 1) {
            throw new IllegalStateException("no city: " + second + " fault " + x.fault(0) + " at " + x.fault(1));
        }
        return x;
    }

    /** A text has a FAULT at a place; the object is to have no text of this sort yet. */
    void faulty(int sort, String text, int fault, int place) {
        CityChords x = new CityChords();
        String name = "'" + text + "' ";
        due(name + "text", tell(x, sort, text), fault == 0 ? 0 : -1);
        due(name + "fault", x.fault(0), fault);
        due(name + "place", x.fault(1), place);
        due(name + "count", x.count(sort), fault == 0 ? 1 : 0);
        due(name + "tape", x.end(1), -1);
    }
}
