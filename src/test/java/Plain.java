import java.util.ArrayList;
import java.util.Arrays;
import java.util.HashSet;
import java.util.List;
import java.util.Random;
import java.util.Set;

/** A city drawn by a seed, and the document's answers about it found by the plainest ways, with cells and lists. */
final class Plain {
    static final int[] RANGES = {3, 4, 6, 9};
    static final String[] INSTRUMENTS = {"fiddle", "flute", "drum", "horn"};
    static final String[] KINDS = {"citizen", "thief", "child", "deaf"};
    static final String[] COMMANDS = {"stand", "free", "tell", "march"};
    static final int FAR = 100000;

    final int wide;
    final int high;
    final int wind;
    final boolean[] wall;
    final List<int[]> players = new ArrayList<>();
    final List<int[]> people = new ArrayList<>();
    final int[] value = {3, 3, 3, 3};
    final String text;

    Plain(Random random, int mostSide, int wallsOfTen) {
        StringBuilder all = new StringBuilder();
        wide = 2 + random.nextInt(mostSide - 1);
        high = 2 + random.nextInt(mostSide - 1);
        wind = random.nextInt(5);
        all.append("size ").append(wide).append(' ').append(high).append(";wind ").append(wind).append(';');
        wall = new boolean[wide * high];
        for (int cell = 0; cell < wall.length; cell++) {
            wall[cell] = random.nextInt(10) < wallsOfTen;
            if (wall[cell] && all.length() < 400) {
                all.append("wall").append(cell % wide).append(' ').append(cell / wide).append(';');
            } else {
                wall[cell] = false;
            }
        }
        for (int c = 0; c < 4; c++) {
            if (random.nextBoolean()) {
                value[c] = random.nextInt(10);
                all.append("value ").append(COMMANDS[c]).append(value[c]).append(';');
            }
        }
        int most = random.nextInt(7);
        for (int k = 0; k < most; k++) {
            settle(random, players, INSTRUMENTS, all);
        }
        most = random.nextInt(7);
        for (int k = 0; k < most; k++) {
            settle(random, people, KINDS, all);
        }
        text = all.toString();
    }

    private void settle(Random random, List<int[]> all, String[] names, StringBuilder into) {
        int cell = random.nextInt(wall.length);
        int kind = random.nextInt(4);
        if (wall[cell] || into.length() > 580) {
            return;
        }
        all.add(new int[] {kind, cell});
        into.append(names[kind]).append(cell % wide).append(' ').append(cell / wide).append(';');
    }

    /** The cell next to one, -1 outside. */
    int next(int cell, int direction) {
        int column = cell % wide + new int[] {0, 1, 0, -1}[direction];
        int row = cell / wide + new int[] {-1, 0, 1, 0}[direction];
        return column < 0 || row < 0 || column >= wide || row >= high ? -1 : row * wide + column;
    }

    int step(int cell, int direction) {
        int to = next(cell, direction);
        return to < 0 || wall[to] ? -1 : to;
    }

    int[] costs(int from) {
        int[] cost = new int[wall.length];
        Arrays.fill(cost, FAR);
        cost[from] = 0;
        for (int round = 0; round < wall.length; round++) {
            for (int cell = 0; cell < wall.length; cell++) {
                for (int d = 0; d < 4; d++) {
                    int to = next(cell, d);
                    if (to >= 0) {
                        int one = 1 + (wall[to] ? 2 : 0) + (wind < 4 && (wind + 2) % 4 == d ? 1 : 0);
                        cost[to] = Math.min(cost[to], cost[cell] + one);
                    }
                }
            }
        }
        return cost;
    }

    boolean[] heard(int instrument, int cell) {
        int[] cost = costs(cell);
        boolean[] heard = new boolean[wall.length];
        for (int k = 0; k < wall.length; k++) {
            heard[k] = cost[k] <= RANGES[instrument];
        }
        return heard;
    }

    boolean[][] heardOfAll() {
        boolean[][] all = new boolean[players.size()][];
        for (int p = 0; p < all.length; p++) {
            all[p] = heard(players.get(p)[0], players.get(p)[1]);
        }
        return all;
    }

    boolean hearsOne(boolean[][] heard, int set, int cell) {
        for (int p = 0; p < heard.length; p++) {
            if ((set >> p & 1) != 0 && heard[p][cell]) {
                return true;
            }
        }
        return false;
    }

    int enough() {
        boolean[][] heard = heardOfAll();
        int best = -1;
        for (int set = 0; set < 1 << heard.length; set++) {
            boolean does = true;
            for (int cell = 0; cell < wall.length; cell++) {
                does &= wall[cell] || !hearsOne(heard, -1, cell) || hearsOne(heard, set, cell);
            }
            if (does && (best < 0 || Integer.bitCount(set) < Integer.bitCount(best))) {
                best = set;
            }
        }
        return best;
    }

    /** How many, first cell, second cell. */
    int[] fresh(int instrument, int n) {
        boolean[][] heard = heardOfAll();
        boolean[][] by = new boolean[wall.length][];
        for (int cell = 0; cell < wall.length; cell++) {
            by[cell] = heard(instrument, cell);
        }
        int[] best = {-1, -1, -1};
        for (int a = 0; a < wall.length; a++) {
            for (int b = n == 1 ? a : a + 1; b < (n == 1 ? a + 1 : wall.length); b++) {
                int many = 0;
                for (int cell = 0; cell < wall.length; cell++) {
                    boolean one = by[a][cell] || by[b][cell];
                    many += !wall[cell] && one && !hearsOne(heard, -1, cell) ? 1 : 0;
                }
                if (!wall[a] && !wall[b] && many > best[0]) {
                    best = new int[] {many, a, n == 1 ? -1 : b};
                }
            }
        }
        return best;
    }

    /** How many marches, the first direction: by layers of pairs, once for each first direction. */
    int[] gather(int player, int a, int b) {
        boolean[] hears = heard(players.get(player)[0], players.get(player)[1]);
        int one = people.get(a)[1];
        int other = people.get(b)[1];
        if (one == other) {
            return new int[] {0, -1};
        }
        int[] best = {-1, -1};
        for (int d = 0; d < 4; d++) {
            Set<Integer> seen = new HashSet<>();
            Set<Integer> layer = Set.of(marched(hears, one, d) * 64 + marched(hears, other, d));
            for (int many = 1; !layer.isEmpty(); many++) {
                Set<Integer> further = new HashSet<>();
                for (int pair : layer) {
                    if (pair / 64 == pair % 64 && (best[0] < 0 || many < best[0])) {
                        best = new int[] {many, d};
                    }
                    for (int e = 0; e < 4; e++) {
                        int to = marched(hears, pair / 64, e) * 64 + marched(hears, pair % 64, e);
                        if (seen.add(to)) {
                            further.add(to);
                        }
                    }
                }
                layer = further;
            }
        }
        return best;
    }

    private int marched(boolean[] hears, int cell, int direction) {
        int to = hears[cell] ? step(cell, direction) : -1;
        return to < 0 ? cell : to;
    }

    private List<Integer> moves(int cell) {
        List<Integer> all = new ArrayList<>(List.of(cell));
        for (int d = 0; d < 4; d++) {
            if (step(cell, d) >= 0) {
                all.add(step(cell, d));
            }
        }
        return all;
    }

    /** By values that only fall, until none falls. */
    int chase(int player, int person) {
        int n = wall.length;
        int[][] turns = new int[n][n];
        for (int p = 0; p < n; p++) {
            Arrays.fill(turns[p], FAR);
            turns[p][p] = 0;
        }
        for (boolean more = true; more;) {
            more = false;
            for (int p = 0; p < n; p++) {
                for (int q = 0; q < n; q++) {
                    int best = p == q ? 0 : FAR;
                    for (int to : wall[p] || wall[q] ? new ArrayList<Integer>() : moves(p)) {
                        int worst = 0;
                        for (int flight : moves(q)) {
                            worst = Math.max(worst, flight == to ? 0 : turns[to][flight]);
                        }
                        best = Math.min(best, 1 + (to == q ? 0 : worst));
                    }
                    if (best < turns[p][q]) {
                        turns[p][q] = best;
                        more = true;
                    }
                }
            }
        }
        int all = turns[players.get(player)[1]][people.get(person)[1]];
        return all >= FAR ? -1 : all;
    }

    /** All rows of commands, one by one: the most, and the first row that brings it. */
    int[] programme(int n, boolean habit) {
        int[] best = new int[n + 1];
        best[0] = -1;
        for (int row = 0; row < 1 << 2 * n; row++) {
            int[] worn = new int[4];
            int brought = 0;
            boolean fits = true;
            int last = -1;
            for (int k = n - 1; k >= 0; k--) {
                int c = row >> 2 * k & 3;
                fits &= !habit || c != last;
                brought += Math.max(0, value[c] - worn[c]);
                for (int e = 0; e < 4; e++) {
                    worn[e] = e == c ? Math.min(4, worn[e] + 1) : Math.max(0, worn[e] - 1);
                }
                last = c;
            }
            if (fits && brought > best[0]) {
                best[0] = brought;
                for (int k = 0; k < n; k++) {
                    best[k + 1] = row >> 2 * (n - 1 - k) & 3;
                }
            }
        }
        return best;
    }

    int[] walk(int from, boolean[] shut) {
        int[] steps = new int[wall.length];
        Arrays.fill(steps, -1);
        if (shut[from]) {
            return steps;
        }
        steps[from] = 0;
        List<Integer> queue = new ArrayList<>(List.of(from));
        for (int head = 0; head < queue.size(); head++) {
            int cell = queue.get(head);
            for (int d = 0; d < 4; d++) {
                int to = next(cell, d);
                if (to >= 0 && !shut[to] && steps[to] < 0) {
                    steps[to] = steps[cell] + 1;
                    queue.add(to);
                }
            }
        }
        return steps;
    }

    int steps(int from, int to) {
        return walk(from, wall)[to];
    }

    int[] blocks() {
        boolean[] done = wall.clone();
        int[] all = new int[2];
        for (int cell = 0; cell < wall.length; cell++) {
            if (!done[cell]) {
                all[0]++;
                int many = 0;
                int[] steps = walk(cell, wall);
                for (int k = 0; k < steps.length; k++) {
                    if (steps[k] >= 0) {
                        many++;
                        done[k] = true;
                    }
                }
                all[1] = Math.max(all[1], many);
            }
        }
        return all;
    }

    boolean isNext(int a, int b) {
        boolean near = false;
        for (int d = 0; d < 4; d++) {
            near |= next(a, d) == b;
        }
        return near;
    }

    int cordon(int a, int b) {
        if (wall[a] || wall[b] || a == b || isNext(a, b)) {
            return -1;
        }
        for (int many = 0; many <= 4; many++) {
            if (cut(wall.clone(), a, b, 0, many)) {
                return many;
            }
        }
        return -5;
    }

    private boolean cut(boolean[] shut, int a, int b, int from, int many) {
        if (walk(a, shut)[b] < 0) {
            return true;
        }
        for (int cell = from; many > 0 && cell < shut.length; cell++) {
            if (!shut[cell] && cell != a && cell != b) {
                shut[cell] = true;
                boolean done = cut(shut, a, b, cell + 1, many - 1);
                shut[cell] = false;
                if (done) {
                    return true;
                }
            }
        }
        return false;
    }

    /** As many ways that share no cell as can be found one by one: for cities too large for trying all walls. */
    int cordonByWays(int a, int b) {
        int n = wall.length;
        boolean[][] room = new boolean[2 * n][2 * n];
        for (int cell = 0; cell < n; cell++) {
            room[cell][n + cell] = true;
            for (int d = 0; d < 4; d++) {
                int to = step(cell, d);
                if (to >= 0) {
                    room[n + cell][to] = true;
                }
            }
        }
        int ways = 0;
        while (push(room, n + a, b, new boolean[2 * n])) {
            ways++;
        }
        return ways;
    }

    private boolean push(boolean[][] room, int from, int to, boolean[] seen) {
        if (from == to) {
            return true;
        }
        seen[from] = true;
        for (int next = 0; next < room.length; next++) {
            if (room[from][next] && !seen[next] && push(room, next, to, seen)) {
                room[from][next] = false;
                room[next][from] = true;
                return true;
            }
        }
        return false;
    }

    int[] square() {
        boolean[][] heard = heardOfAll();
        int[] best = {-1, -1};
        for (int cell = 0; cell < wall.length; cell++) {
            int many = 0;
            for (boolean[] one : heard) {
                many += one[cell] ? 1 : 0;
            }
            if (many > best[1]) {
                best = new int[] {cell, many};
            }
        }
        return best;
    }

    int silent() {
        boolean[][] heard = heardOfAll();
        int all = 0;
        for (int p = 0; p < people.size(); p++) {
            all |= hearsOne(heard, -1, people.get(p)[1]) ? 0 : 1 << p;
        }
        return all;
    }

    int round(int player) {
        int all = visit(players.get(player)[1], (1 << people.size()) - 1);
        return all >= FAR ? -1 : all;
    }

    private int visit(int from, int left) {
        int best = left == 0 ? 0 : FAR;
        for (int p = 0; p < people.size(); p++) {
            if ((left >> p & 1) != 0) {
                int steps = steps(from, people.get(p)[1]);
                best = Math.min(best, steps < 0 ? FAR : steps + visit(people.get(p)[1], left & ~(1 << p)));
            }
        }
        return best;
    }

    /** The sets that are SEEN; null, if a cell told of is not there. Facts: loud, column, row. */
    List<Integer> seen(List<int[]> facts) {
        boolean[][] heard = heardOfAll();
        List<Integer> all = new ArrayList<>();
        for (int set = 0; set < 1 << heard.length; set++) {
            boolean so = true;
            for (int[] fact : facts) {
                if (fact[1] >= wide || fact[2] >= high) {
                    return null;
                }
                so &= hearsOne(heard, set, fact[2] * wide + fact[1]) == (fact[0] == 1);
            }
            if (so) {
                all.add(set);
            }
        }
        return all;
    }

    int listen(List<Integer> sets) {
        boolean[][] heard = heardOfAll();
        int best = -1;
        int least = FAR;
        for (int cell = 0; cell < wall.length; cell++) {
            int loud = 0;
            for (int set : sets) {
                loud += hearsOne(heard, set, cell) ? 1 : 0;
            }
            if (Math.max(loud, sets.size() - loud) < least) {
                least = Math.max(loud, sets.size() - loud);
                best = cell;
            }
        }
        return best;
    }
}
