import java.util.ArrayList;
import java.util.HashSet;
import java.util.List;
import java.util.Set;
import java.util.regex.Matcher;
import java.util.regex.Pattern;

/**
 * A text of a sort read the plainest way: all tokens first, then which of all lines there are still go on with each, then
 * the FAULTS of what the lines tell.
 */
final class PlainText {
    /** Of each sort its lines: words, and of each NUMBER the least and the most that can be. */
    static final String[][] LINES = {
        {"size 2-8 2-8", "wall 0-7 0-7", "fiddle 0-7 0-7", "flute 0-7 0-7", "drum 0-7 0-7", "horn 0-7 0-7", "citizen 0-7 0-7",
            "thief 0-7 0-7", "child 0-7 0-7", "deaf 0-7 0-7", "wind 0-4", "value stand 0-9", "value free 0-9",
            "value tell 0-9", "value march 0-9"},
        {"stand 0-5", "free 0-5", "tell 0-5", "march 0-5 0-3", "walk 0-5 0-3", "go 0-5 0-3", "rest"},
        {"says 0-7 0-7", "denies 0-7 0-7", "voices 1-8", "thieves 0-8"},
        {"loud 0-7 0-7", "quiet 0-7 0-7"},
    };
    private static final List<String> PLAYERS = List.of("fiddle", "flute", "drum", "horn");
    private static final List<String> PEOPLE = List.of("citizen", "thief", "child", "deaf");

    private record Token(String text, int place) {
        boolean isNumber() {
            return text.matches("[0-9]{1,2}");
        }
    }

    /** A line told: its words, its NUMBERS, its first token's place, and that of its first NUMBER that can't be (-1 without). */
    record Told(String words, List<Integer> numbers, int place, int bad) {
        int at(int k) {
            return numbers.get(k);
        }

        boolean isOf(List<String> names) {
            return names.contains(words);
        }
    }

    final List<Told> told = new ArrayList<>();
    int fault = 0;
    int place = -1;
    private final int sort;
    private final int length;

    PlainText(int sort, String text) {
        this.sort = sort;
        length = text.length();
        readLines(tokens(text));
        if (fault == 0) {
            firstByPlace();
        }
        if (fault == 0) {
            atTheEnd();
        }
    }

    private static List<Token> tokens(String text) {
        List<Token> all = new ArrayList<>();
        Matcher matcher = Pattern.compile("[a-z]+|[0-9]+|[^ \n]", Pattern.DOTALL).matcher(text);
        while (matcher.find()) {
            all.add(new Token(matcher.group(), matcher.start()));
        }
        return all;
    }

    private void fail(int its, int where) {
        fault = its;
        place = where;
    }

    private void readLines(List<Token> tokens) {
        int at = 0;
        while (at < tokens.size()) {
            int first = at;
            List<String[]> open = new ArrayList<>();
            for (String line : LINES[sort]) {
                open.add((line + " ;").split(" "));
            }
            boolean ended = false;
            while (!ended) {
                if (at == tokens.size()) {
                    fail(1, length);
                    return;
                }
                Token token = tokens.get(at);
                int part = at - first;
                open.removeIf(line -> !goesOn(line[part], token));
                if (open.isEmpty()) {
                    fail(1, token.place);
                    return;
                }
                ended = token.text.equals(";");
                at++;
            }
            told.add(line(open.get(0), tokens.subList(first, at)));
        }
    }

    private static boolean goesOn(String part, Token token) {
        return part.contains("-") ? token.isNumber() : part.equals(token.text);
    }

    private static Told line(String[] parts, List<Token> tokens) {
        StringBuilder words = new StringBuilder();
        List<Integer> numbers = new ArrayList<>();
        int bad = -1;
        for (int k = 0; k < parts.length - 1; k++) {
            if (!parts[k].contains("-")) {
                words.append(k == 0 ? "" : " ").append(parts[k]);
                continue;
            }
            int number = Integer.parseInt(tokens.get(k).text);
            String[] bounds = parts[k].split("-");
            boolean can = number >= Integer.parseInt(bounds[0]) && number <= Integer.parseInt(bounds[1]);
            numbers.add(number);
            bad = can || bad >= 0 ? bad : tokens.get(k).place;
        }
        return new Told(words.toString(), numbers, tokens.get(0).place, bad);
    }

    private void firstByPlace() {
        List<int[]> all = new ArrayList<>();
        int[] many = new int[3];
        for (Told line : told) {
            if (line.bad >= 0) {
                all.add(new int[] {line.bad, 2});
            }
            int group = sort == 0 ? line.isOf(PLAYERS) ? 0 : line.isOf(PEOPLE) ? 1 : 2 : sort == 2 && line.numbers.size() < 2 ? 2 : 0;
            many[group]++;
            int most = sort == 0 ? 6 : sort == 1 ? 40 : sort == 2 ? 12 : 10;
            if (group < 2 && many[group] > most) {
                all.add(new int[] {line.place, 3});
            }
        }
        for (int[] one : all) {
            if (fault == 0 || one[0] < place || one[0] == place && one[1] < fault) {
                fail(one[1], one[0]);
            }
        }
    }

    /** The last line that begins so, or what is so at first. */
    int last(String words, int k, int atFirst) {
        int its = atFirst;
        for (Told line : told) {
            its = line.words.equals(words) ? line.at(k) : its;
        }
        return its;
    }

    List<Told> players() {
        return told.stream().filter(line -> line.isOf(PLAYERS)).toList();
    }

    List<Told> people() {
        return told.stream().filter(line -> line.isOf(PEOPLE)).toList();
    }

    List<Told> sayings() {
        return told.stream().filter(line -> line.numbers.size() == 2).toList();
    }

    /** Places, 10 times the column and the row. */
    Set<Integer> walls() {
        Set<Integer> all = new HashSet<>();
        told.stream().filter(line -> line.words.equals("wall")).forEach(line -> all.add(10 * line.at(0) + line.at(1)));
        return all;
    }

    private void atTheEnd() {
        if (sort == 0) {
            List<Integer> bodies = new ArrayList<>();
            players().forEach(line -> bodies.add(10 * line.at(0) + line.at(1)));
            people().forEach(line -> bodies.add(10 * line.at(0) + line.at(1)));
            List<Integer> all = new ArrayList<>(walls());
            all.addAll(bodies);
            boolean outside = all.stream().anyMatch(at -> at / 10 >= last("size", 0, 6) || at % 10 >= last("size", 1, 6));
            if (outside) {
                fail(4, length);
            } else if (bodies.stream().anyMatch(walls()::contains)) {
                fail(5, length);
            }
        } else if (sort == 2) {
            int voices = last("voices", 0, 4);
            if (sayings().stream().anyMatch(line -> line.at(0) >= voices || line.at(1) >= voices)) {
                fail(4, length);
            }
        }
    }
}
