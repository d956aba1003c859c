import java.util.ArrayList;
import java.util.List;
import java.util.Random;

/**
 * Promises 10 to 28 over cities, trials and sights drawn by fixed seeds, against plain ways to find the same. An object
 * is used for 512 calls at most: further ones are made, where more is asked.
 */
public final class OracleTest {
    public static void main(String[] args) {
        Check c = new Check();
        for (int seed = 0; seed < 400; seed++) {
            Random random = new Random(seed);
            Plain plain = new Plain(random, seed % 3 == 0 ? 4 : seed % 3 == 1 ? 6 : 8, seed % 7);
            String name = plain.text + " ";
            CityChords x = Check.cityOf(plain.text);
            sound(c, x, plain, name);
            hunt(c, Check.cityOf(plain.text), plain, name);
            streets(c, Check.cityOf(plain.text), plain, name, random);
            crowd(c, Check.cityOf(plain.text), plain, name);
            if (seed % 4 == 0) {
                programme(c, x, plain, name);
            }
            for (int k = 0; k < 3; k++) {
                sight(c, x, plain, name, random);
            }
            trial(c, random);
        }
        c.close();
    }

    private static void sound(Check c, CityChords x, Plain plain, String name) {
        int cells = plain.wall.length;
        for (int p = 0; p < plain.players.size(); p++) {
            x = Check.cityOf(plain.text);
            int[] costs = plain.costs(plain.players.get(p)[1]);
            for (int cell = 0; cell < cells; cell++) {
                c.due(name + "hears " + p + " " + cell, x.hears(0, p, cell), costs[cell]);
            }
            c.due(name + "hears outside", x.hears(0, p, cells), -1);
        }
        c.due(name + "enough", x.enough(0), plain.enough());
        for (int instrument = 0; instrument < 4; instrument++) {
            for (int n = 1; n <= 2; n++) {
                int[] due = plain.fresh(instrument, n);
                for (int what = 0; what <= 2; what++) {
                    c.due(name + "fresh " + instrument + " " + n + " " + what, x.fresh(0, instrument, n, what), due[what]);
                }
            }
        }
        c.due(name + "square", x.square(0, false), plain.square()[0]);
        c.due(name + "square many", x.square(0, true), plain.square()[1]);
        c.due(name + "silent", x.silent(0), plain.silent());
    }

    private static void hunt(Check c, CityChords x, Plain plain, String name) {
        for (int p = 0; p < plain.players.size(); p++) {
            x = Check.cityOf(plain.text);
            for (int a = 0; a < plain.people.size(); a++) {
                if (plain.wall.length <= 25 || p == 0 && a == 0) {
                    c.due(name + "chase " + p + " " + a, x.chase(0, p, a), plain.chase(p, a));
                }
                for (int b = 0; b < plain.people.size(); b++) {
                    int[] due = a == b ? new int[] {-1, -1} : plain.gather(p, a, b);
                    c.due(name + "gather " + p + a + b, x.gather(0, p, a, b, false), due[0]);
                    c.due(name + "gather to " + p + a + b, x.gather(0, p, a, b, true), due[1]);
                }
            }
        }
    }

    private static void streets(Check c, CityChords x, Plain plain, String name, Random random) {
        int cells = plain.wall.length;
        c.due(name + "blocks", x.blocks(0, false), plain.blocks()[0]);
        c.due(name + "largest", x.blocks(0, true), plain.blocks()[1]);
        for (int k = 0; k < 60; k++) {
            int a = random.nextInt(cells);
            int b = random.nextInt(cells);
            c.due(name + "steps " + a + " " + b, x.steps(0, a, b), plain.wall[a] || plain.wall[b] ? -1 : plain.steps(a, b));
            if (cells <= 30) {
                c.due(name + "cordon " + a + " " + b, x.cordon(0, a, b), plain.cordon(a, b));
            }
        }
        for (int a = 0; a < cells && cells >= 30; a++) {
            x = Check.cityOf(plain.text);
            for (int b = plain.text.length() % 5; b < cells; b += 5) {
                int due = plain.wall[a] || plain.wall[b] || a == b || plain.isNext(a, b) ? -1 : plain.cordonByWays(a, b);
                c.due(name + "cordon " + a + " " + b, x.cordon(0, a, b), due);
            }
        }
        for (int p = 0; p < plain.players.size(); p++) {
            c.due(name + "round " + p, x.round(0, p), plain.round(p));
        }
    }

    private static void crowd(Check c, CityChords x, Plain plain, String name) {
        int best = 0;
        int least = 100;
        for (int column = 0; column <= plain.wide; column++) {
            int left = 0;
            for (int[] person : plain.people) {
                left += person[1] % plain.wide < column ? 1 : 0;
            }
            int right = plain.people.size() - left;
            c.due(name + "left", x.part(0, column, false), left);
            c.due(name + "right", x.part(0, column, true), right);
            if (Math.abs(left - right) < least) {
                least = Math.abs(left - right);
                best = column;
            }
        }
        c.due(name + "part", x.part(0, -1, false), best);
        c.due(name + "part beyond", x.part(0, plain.wide + 1, false), -1);
        int most = 0;
        for (int[] one : plain.people) {
            int row = 0;
            int column = 0;
            for (int[] other : plain.people) {
                row += one[1] / plain.wide == other[1] / plain.wide ? 1 : 0;
                column += one[1] % plain.wide == other[1] % plain.wide ? 1 : 0;
            }
            most = Math.max(most, Math.max(row, column));
        }
        c.due(name + "line", x.line(0), most);
    }

    private static void programme(Check c, CityChords x, Plain plain, String name) {
        for (int n = 0; n <= 8; n++) {
            int[] due = plain.programme(n, false);
            c.due(name + "programme " + n, x.programme(0, n, -1), due[0]);
            for (int k = 0; k < n; k++) {
                c.due(name + "programme " + n + " " + k, x.programme(0, n, k), due[k + 1]);
            }
            c.due(name + "programme behind " + n, x.programme(0, n, n), -1);
            c.due(name + "habit " + n, x.programme(0, n, -2), plain.programme(n, true)[0]);
        }
    }

    private static void sight(Check c, CityChords x, Plain plain, String name, Random random) {
        List<int[]> facts = new ArrayList<>();
        StringBuilder text = new StringBuilder();
        for (int k = random.nextInt(4); k > 0; k--) {
            int most = random.nextInt(30) == 0 ? 8 : 0;
            int[] fact = {random.nextInt(2), random.nextInt(Math.max(most, plain.wide)), random.nextInt(Math.max(most, plain.high))};
            facts.add(fact);
            text.append(fact[0] == 1 ? "loud " : "quiet ").append(fact[1]).append(' ').append(fact[2]).append(';');
        }
        CityChords y = Check.cityOf(plain.text);
        Check.tell(y, Check.SIGHT, text.toString());
        List<Integer> sets = plain.seen(facts);
        name = name + text;
        if (sets == null) {
            for (int what = 0; what < 12; what++) {
                c.due(name + "seen without", y.seen(0, 0, what), -2);
            }
            return;
        }
        int all = (1 << plain.players.size()) - 1;
        c.due(name + "seen", y.seen(0, 0, 0), sets.size());
        for (int k = 0; k < sets.size(); k++) {
            c.due(name + "seen " + k, y.seen(0, 0, 10 + k), sets.get(k));
            all &= sets.get(k);
        }
        c.due(name + "seen behind", y.seen(0, 0, 10 + sets.size()), -2);
        c.due(name + "surely", y.seen(0, 0, 1), sets.isEmpty() ? -1 : all);
        c.due(name + "listen", y.seen(0, 0, 2), sets.isEmpty() ? -1 : plain.listen(sets));
    }

    private static void trial(Check c, Random random) {
        int witnesses = 1 + random.nextInt(8);
        int thieves = random.nextInt(3) == 0 ? random.nextInt(9) : -1;
        StringBuilder text = new StringBuilder("voices " + witnesses + ";");
        if (thieves >= 0) {
            text.append("thieves ").append(thieves).append(';');
        }
        List<int[]> sayings = new ArrayList<>();
        for (int k = random.nextInt(7); k > 0; k--) {
            int[] saying = {random.nextInt(2), random.nextInt(witnesses), random.nextInt(witnesses)};
            sayings.add(saying);
            text.append(saying[0] == 1 ? "says " : "denies ").append(saying[1]).append(' ').append(saying[2]).append(';');
        }
        CityChords x = new CityChords();
        c.due(text + "text", Check.tell(x, Check.TRIAL, text.toString()), 0);
        List<Integer> fit = new ArrayList<>();
        int broken = -1;
        int brokenSet = -1;
        for (int set = 0; set < 1 << witnesses; set++) {
            int wrong = 0;
            for (int[] saying : sayings) {
                boolean isSo = (set >> saying[2] & 1) == saying[0];
                boolean lies = (set >> saying[1] & 1) == 1;
                wrong += isSo == lies ? 1 : 0;
            }
            if (thieves < 0 || Integer.bitCount(set) == thieves) {
                if (wrong == 0) {
                    fit.add(set);
                }
                if (broken < 0 || wrong < broken) {
                    broken = wrong;
                    brokenSet = set;
                }
            }
        }
        c.due(text + "fit", x.thieves(0, 0), fit.size());
        int sure = (1 << witnesses) - 1;
        int clear = sure;
        for (int k = 0; k < fit.size(); k++) {
            c.due(text + "fit " + k, x.thieves(0, 10 + k), fit.get(k));
            sure &= fit.get(k);
            clear &= ~fit.get(k);
        }
        c.due(text + "fit behind", x.thieves(0, 10 + fit.size()), -2);
        c.due(text + "sure", x.thieves(0, 1), fit.isEmpty() ? -1 : sure);
        c.due(text + "clear", x.thieves(0, 2), fit.isEmpty() ? -1 : clear);
        c.due(text + "ask", x.thieves(0, 3), ask(fit, witnesses));
        c.due(text + "broken", x.thieves(0, 4), broken);
        c.due(text + "broken set", x.thieves(0, 5), brokenSet);
    }

    private static int ask(List<Integer> fit, int witnesses) {
        int best = -1;
        int least = 1000;
        for (int witness = 0; witness < witnesses && !fit.isEmpty(); witness++) {
            for (int whom = 0; whom < witnesses; whom++) {
                int says = 0;
                for (int set : fit) {
                    boolean guilty = (set >> whom & 1) == 1;
                    boolean lies = (set >> witness & 1) == 1;
                    says += lies ? guilty ? 0 : 1 : guilty ? 1 : 0;
                }
                int greater = Math.max(says, fit.size() - says);
                if (greater < least) {
                    least = greater;
                    best = 8 * witness + whom;
                }
            }
        }
        return best;
    }
}
