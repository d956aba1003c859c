import java.util.Random;

/**
 * Nothing of an earlier call is left in a later one: one object with many calls behind it answers as a new one does that
 * has been told the same, of texts (promises 4, 5) and of all that follows from them (promises 6 to 28).
 */
public final class StaleTest {
    private static final String[][] LINES = {
        {"size 8 8;", "size 4 4;", "fiddle 1 2;", "flute 3 0;", "drum 2 2;", "horn 0 0;", "citizen 1 1;", "thief 2 0;",
            "child 0 2;", "deaf 3 2;", "wall 3 1;", "wall 0 1;", "wall 7 7;", "wind 2;", "value tell 7;", "value stand 0;",
            "thief 3 3;", "horn 3 3;"},
        {"stand 0;", "free 1;", "tell 0;", "march 0 1;", "march 1 2;", "walk 0 0;", "walk 1 3;", "go 0 1;", "go 1 2;", "rest;"},
        {"voices 5;", "voices 1;", "thieves 2;", "says 0 1;", "says 2 3;", "denies 1 2;", "denies 3 0;", "says 4 4;"},
        {"loud 0 0;", "quiet 3 2;", "loud 2 1;", "quiet 1 1;", "loud 7 7;"},
    };

    public static void main(String[] args) {
        Check c = new Check();
        for (int seed = 0; seed < 160; seed++) {
            Random random = new Random(seed);
            texts(c, random);
            answers(c, random);
        }
        ends(c);
        shorter(c);
        c.close();
    }

    private static String lines(Random random, int sort) {
        StringBuilder all = new StringBuilder();
        for (int k = random.nextInt(10); k > 0; k--) {
            all.append(LINES[sort][random.nextInt(LINES[sort].length)]);
        }
        if (random.nextInt(4) == 0) {
            all.setLength(random.nextInt(all.length() + 1));
        }
        return all.toString();
    }

    private static void texts(Check c, Random random) {
        CityChords used = new CityChords();
        for (int sort = 0; sort < 4; sort++) {
            used.text(sort, CityChords.NONE);
        }
        for (int k = 0; k < 3; k++) {
            int sort = random.nextInt(4);
            String text = lines(random, sort);
            CityChords fresh = new CityChords();
            int due = Check.tell(fresh, sort, text);
            c.due(text + " text", Check.tell(used, sort, text, 0), due);
            c.due(text + " fault", used.fault(0), fresh.fault(0));
            c.due(text + " place", used.fault(1), fresh.fault(1));
            for (int call = 0; due == 0 && call < 124; call++) {
                c.due(text + " call " + call, told(used, sort, call), told(fresh, sort, call));
            }
        }
    }

    /** What a text of a sort has told, call by call. */
    private static int told(CityChords x, int sort, int call) {
        switch (sort) {
            case 0: return x.city(0, call < 60 ? call : call + 40);
            case 1: return x.deed(0, call / 3 - 1, call % 3);
            case 2: return x.trial(0, call);
            default: return x.fact(0, call / 3 - 1, call % 3);
        }
    }

    private static String good(Random random, int sort) {
        for (int k = 0; k < 1000; k++) {
            String text = lines(random, sort);
            if (Check.tell(new CityChords(), sort, text) == 0) {
                return text;
            }
        }
        return "";
    }

    private static void answers(Check c, Random random) {
        String[][] texts = new String[4][2];
        CityChords used = new CityChords();
        for (int sort = 0; sort < 4; sort++) {
            for (int k = 0; k < 2; k++) {
                texts[sort][k] = good(random, sort);
                Check.tell(used, sort, texts[sort][k]);
            }
        }
        for (int k = 0; k < 400; k++) {
            int city = random.nextInt(2);
            int other = random.nextInt(2);
            int which = random.nextInt(20);
            int[] rest = {random.nextInt(4), random.nextInt(4), random.nextInt(4)};
            CityChords fresh = new CityChords();
            Check.tell(fresh, 0, texts[0][city]);
            for (int sort = 1; sort < 4; sort++) {
                Check.tell(fresh, sort, texts[sort][other]);
            }
            c.due(texts[0][city] + " and " + other + " call " + which + " " + rest[0] + rest[1] + rest[2],
                call(used, which, city, other, rest), call(fresh, which, 0, 0, rest));
        }
    }

    private static int call(CityChords x, int which, int city, int other, int[] r) {
        switch (which) {
            case 0: return x.stop(city, other);
            case 1: return x.state(city, other, r[0], 10 * r[1] + r[2]);
            case 2: return x.hears(city, r[0], 5 * r[1] + r[2]);
            case 3: return x.enough(city);
            case 4: return x.fresh(city, r[0], 1 + r[1] % 2, r[2]);
            case 5: return x.gather(city, r[0], r[1], r[2], false);
            case 6: return x.gather(city, r[0], r[1], r[2], true);
            case 7: return x.chase(city, r[0], r[1]);
            case 8: return x.programme(city, 3 * r[0], r[1] - 2);
            case 9: return x.part(city, r[0] - 1, r[1] > 1);
            case 10: return x.line(city);
            case 11: return x.thieves(other, r[0] < 2 ? r[1] : 10 + r[1]);
            case 12: return x.seen(city, other, r[0] < 2 ? r[1] : 10 + r[1]);
            case 13: return x.drawn(city, r[0], 20 * r[1], 10 * r[2] + r[0]);
            case 14: return x.steps(city, 5 * r[0], 5 * r[1]);
            case 15: return x.blocks(city, r[0] > 1);
            case 16: return x.cordon(city, 5 * r[0], 5 * r[1]);
            case 17: return x.square(city, r[0] > 1);
            case 18: return x.silent(city);
            default: return x.round(city, r[0]);
        }
    }

    /** Bytes of an earlier text behind the end of a later one are not read. */
    private static void ends(Check c) {
        String[][] pairs = {{"size 4 3  ;", "size 4 3"}, {"size 4 333", "size 4 3"}, {"restxrest", "rest"}, {"rest;;;;", "rest"}};
        for (String[] pair : pairs) {
            int sort = pair[0].charAt(0) == 's' ? 0 : 1;
            CityChords x = new CityChords();
            Check.tell(x, sort, pair[0]);
            c.due(pair[1], Check.tell(x, sort, pair[1]), -1);
            c.due(pair[1] + " fault", x.fault(0), 1);
            c.due(pair[1] + " place", x.fault(1), pair[1].length());
            c.due(pair[1] + " no sort", Check.tell(x, 4, pair[1]), -2);
            c.due(pair[1] + " no place", x.fault(1), -1);
        }
    }

    /** Lines of an earlier, longer text are gone. */
    private static void shorter(Check c) {
        CityChords x = Check.cityOf("size 2 2;horn 0 0;");
        Check.tell(x, 3, "loud 7 7;");
        c.due("not there", x.seen(0, 0, 0), -2);
        Check.tell(x, 3, "", 0);
        c.due("there", x.seen(0, 0, 0), 2);
        Check.tell(x, 2, "says 0 0;says 3 3;");
        c.due("nothing fits", x.thieves(0, 0), 0);
        c.due("one witness", Check.tell(x, 2, "voices 1;", 0), 0);
        c.due("all fits", x.thieves(0, 0), 2);
        Check.tell(x, 0, "wall 0 0;");
        c.due("no wall", Check.tell(x, 0, "horn 0 0;", 1), 1);
        c.due("the cell", x.city(1, 100), 0);
    }
}
