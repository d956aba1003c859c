import java.util.List;
import java.util.Random;

/**
 * Promises 4 to 7, 18 and 20 over texts drawn by fixed seeds, good ones, and such with signs, words, lines changed: the
 * FAULT, its place, and all that is told, against a plain reader.
 */
public final class TextOracleTest {
    private static final int NONE = CityChords.NONE;
    private static final String[] BLANKS = {" ", " ", " ", " ", "\n", "  ", " \n "};
    private static final List<String> NIGHT_WORDS = List.of("stand", "free", "tell", "march", "walk", "go", "rest");
    private static final List<String> INSTRUMENTS = List.of("fiddle", "flute", "drum", "horn");
    private static final List<String> KINDS = List.of("citizen", "thief", "child", "deaf");
    private static final List<String> COMMANDS = List.of("stand", "free", "tell", "march");

    public static void main(String[] args) {
        Check c = new Check();
        int[] met = new int[6];
        for (int seed = 0; seed < 12000; seed++) {
            Random random = new Random(seed);
            int sort = seed % 4;
            String text = some(random, sort);
            PlainText plain = new PlainText(sort, text);
            met[plain.fault]++;
            CityChords x = new CityChords();
            String name = "sort " + sort + " '" + text + "' ";
            c.due(name + "text", Check.tell(x, sort, text), plain.fault == 0 ? 0 : NONE);
            c.due(name + "fault", x.fault(0), plain.fault);
            c.due(name + "place", x.fault(1), plain.place);
            c.due(name + "count", x.count(sort), plain.fault == 0 ? 1 : 0);
            if (plain.fault == 0) {
                told(c, x, plain, sort, name);
            }
        }
        for (int fault = 0; fault < 6; fault++) {
            c.due("texts with FAULT " + fault + ": " + met[fault], met[fault] >= 100, true);
        }
        c.close();
    }

    /** Lines with NUMBERS, most of which can be; then some change, or none. */
    private static String some(Random random, int sort) {
        String[] lines = PlainText.LINES[sort];
        StringBuilder all = new StringBuilder();
        boolean careful = random.nextInt(4) > 0;
        boolean crowded = random.nextInt(3) == 0;
        int roomy = sort == 0 && random.nextInt(3) > 0 ? 8 : 0;
        all.append(roomy > 0 ? "size 8 8;" : sort == 2 && random.nextBoolean() ? "voices 8;" : "");
        int most = sort == 1 ? 60 : sort == 0 ? crowded ? 14 : 24 : 16;
        for (int k = random.nextInt(most); k > 0 && all.length() < 560; k--) {
            String line = lines[random.nextInt(lines.length)];
            if (roomy > 0 && line.startsWith("size") || random.nextInt(3) > 0 && line.startsWith("voices")) {
                continue;
            }
            for (String part : (line + " ;").split(" ")) {
                all.append(part.contains("-") ? number(random, part, careful, crowded) : part);
                all.append(part.equals(";") && random.nextBoolean() ? "" : BLANKS[random.nextInt(BLANKS.length)]);
            }
        }
        all.setLength(Math.min(600, all.length()));
        for (int k = random.nextInt(4) == 0 ? 1 + random.nextInt(2) : 0; k > 0; k--) {
            change(random, all);
        }
        all.setLength(Math.min(600, all.length()));
        return all.toString();
    }

    private static String number(Random random, String part, boolean careful, boolean crowded) {
        int least = part.charAt(0) - '0';
        int most = crowded ? least + 2 : part.charAt(2) - '0';
        int wild = careful ? 0 : random.nextInt(30);
        int its = wild == 1 ? random.nextInt(100) : wild == 2 ? most + 1 : least + random.nextInt(most - least + 1);
        return random.nextInt(9) == 0 && its < 10 ? "0" + its : "" + its;
    }

    private static void change(Random random, StringBuilder all) {
        int at = random.nextInt(all.length() + 1);
        String signs = "az09;;  \n\t#-M~" + (char) 0 + (char) 255 + (char) 160;
        switch (random.nextInt(5)) {
            case 0: all.insert(at, signs.charAt(random.nextInt(signs.length()))); break;
            case 1: all.setLength(at); break;
            case 2: all.delete(at, Math.min(all.length(), at + 1 + random.nextInt(3))); break;
            case 3: all.replace(at, Math.min(all.length(), at + 1), "" + signs.charAt(random.nextInt(signs.length()))); break;
            default: all.insert(at, all.substring(at, Math.min(all.length(), at + random.nextInt(20)))); break;
        }
    }

    private static void told(Check c, CityChords x, PlainText plain, int sort, String name) {
        switch (sort) {
            case 0: city(c, x, plain, name); break;
            case 1: night(c, x, plain, name); break;
            case 2: trial(c, x, plain, name); break;
            default: sight(c, x, plain, name); break;
        }
    }

    private static void city(Check c, CityChords x, PlainText plain, String name) {
        int wide = plain.last("size", 0, 6);
        int high = plain.last("size", 1, 6);
        int[] due = {wide, high, plain.last("wind", 0, 4), plain.players().size(), plain.people().size()};
        for (int what = 0; what < due.length; what++) {
            c.due(name + "city " + what, x.city(0, what), due[what]);
        }
        for (int k = 0; k < 4; k++) {
            c.due(name + "value " + k, x.city(0, 10 + k), plain.last("value " + COMMANDS.get(k), 0, 3));
        }
        bodies(c, x, plain.players(), INSTRUMENTS, 20, wide, name);
        bodies(c, x, plain.people(), KINDS, 40, wide, name);
        for (int cell = 0; cell <= 64; cell++) {
            boolean wall = plain.walls().contains(10 * (cell % wide) + cell / wide);
            c.due(name + "cell " + cell, x.city(0, 100 + cell), cell >= wide * high ? NONE : wall ? 1 : 0);
        }
    }

    private static void bodies(Check c, CityChords x, List<PlainText.Told> all, List<String> names, int what, int wide, String name) {
        for (int k = 0; k < 7; k++) {
            boolean there = k < all.size();
            c.due(name + what + " " + k, x.city(0, what + k), there ? names.indexOf(all.get(k).words()) : NONE);
            c.due(name + what + " cell of " + k, x.city(0, what + 10 + k), there ? wide * all.get(k).at(1) + all.get(k).at(0) : NONE);
        }
    }

    private static void night(Check c, CityChords x, PlainText plain, String name) {
        c.due(name + "deeds", x.deed(0, NONE, 0), plain.told.size());
        for (int k = 0; k <= plain.told.size(); k++) {
            PlainText.Told line = k < plain.told.size() ? plain.told.get(k) : null;
            c.due(name + "deed " + k, x.deed(0, k, 0), line == null ? -2 : NIGHT_WORDS.indexOf(line.words()));
            for (int what = 1; what <= 2; what++) {
                int its = line != null && line.numbers().size() >= what ? line.at(what - 1) : NONE;
                c.due(name + "deed " + k + " " + what, x.deed(0, k, what), line == null ? -2 : its);
            }
        }
    }

    private static void trial(Check c, CityChords x, PlainText plain, String name) {
        c.due(name + "witnesses", x.trial(0, 0), plain.last("voices", 0, 4));
        c.due(name + "thieves", x.trial(0, 1), plain.last("thieves", 0, NONE));
        c.due(name + "sayings", x.trial(0, 2), plain.sayings().size());
        for (int k = 0; k < 20; k++) {
            PlainText.Told line = k < plain.sayings().size() ? plain.sayings().get(k) : null;
            c.due(name + "saying " + k, x.trial(0, 10 + k), line == null ? -2 : line.words().equals("says") ? 1 : 0);
            c.due(name + "by whom " + k, x.trial(0, 30 + k), line == null ? -2 : line.at(0));
            c.due(name + "of whom " + k, x.trial(0, 50 + k), line == null ? -2 : line.at(1));
        }
    }

    private static void sight(Check c, CityChords x, PlainText plain, String name) {
        c.due(name + "facts", x.fact(0, NONE, 0), plain.told.size());
        for (int k = 0; k <= 10; k++) {
            PlainText.Told line = k < plain.told.size() ? plain.told.get(k) : null;
            c.due(name + "fact " + k, x.fact(0, k, 0), line == null ? -2 : line.words().equals("loud") ? 1 : 0);
            c.due(name + "column " + k, x.fact(0, k, 1), line == null ? -2 : line.at(0));
            c.due(name + "row " + k, x.fact(0, k, 2), line == null ? -2 : line.at(1));
        }
    }
}
