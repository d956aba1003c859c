import java.util.Arrays;

/** A NIGHT played by the document's words, on the cells of a Plain city: each DEED one call, which is false if it can't be. */
final class PlainNight {
    private final Plain city;
    private final int[] playerAt;
    private final int[] personAt;
    private final boolean[] stands;
    private final boolean[] toldOf;
    private final int[] heardLast;
    private final int[] heardOften;
    private int obeyed = 0;

    PlainNight(Plain city) {
        this.city = city;
        playerAt = city.players.stream().mapToInt(p -> p[1]).toArray();
        personAt = city.people.stream().mapToInt(p -> p[1]).toArray();
        stands = new boolean[personAt.length];
        toldOf = new boolean[personAt.length];
        heardLast = new int[personAt.length];
        heardOften = new int[personAt.length];
        rest();
    }

    boolean rest() {
        Arrays.fill(heardLast, -1);
        return true;
    }

    boolean walk(int person, int direction) {
        if (person >= personAt.length || stands[person] || city.step(personAt[person], direction) < 0) {
            return false;
        }
        personAt[person] = city.step(personAt[person], direction);
        return true;
    }

    boolean go(int player, int direction) {
        if (player >= playerAt.length || city.step(playerAt[player], direction) < 0) {
            return false;
        }
        playerAt[player] = city.step(playerAt[player], direction);
        return true;
    }

    boolean play(int command, int player, int direction) {
        if (player >= playerAt.length) {
            return false;
        }
        boolean[] hears = city.heard(city.players.get(player)[0], playerAt[player]);
        for (int p = 0; p < personAt.length; p++) {
            int kind = city.people.get(p)[0];
            if (!hears[personAt[p]] || kind == 3) {
                continue;
            }
            boolean obeys = heardLast[p] != command && !(kind == 2 && command == 0);
            heardLast[p] = command;
            heardOften[p]++;
            if (obeys) {
                obeyed++;
                obey(p, command, direction);
            }
        }
        return true;
    }

    private void obey(int p, int command, int direction) {
        if (command == 0) {
            stands[p] = true;
        } else if (command == 1) {
            stands[p] = false;
        } else if (command == 2) {
            toldOf[p] |= city.people.get(p)[0] == 1;
        } else if (!stands[p] && city.step(personAt[p], direction) >= 0) {
            personAt[p] = city.step(personAt[p], direction);
        }
    }

    /** One DEED: its number as of deed(), who, where to. */
    boolean act(int kind, int who, int direction) {
        switch (kind) {
            case 4: return walk(who, direction);
            case 5: return go(who, direction);
            case 6: return rest();
            default: return play(kind, who, direction);
        }
    }

    private int seed;

    private int below(int n) {
        seed = seed * 1103515245 + 12345;
        return (seed >>> 16) % n;
    }

    void drawn(int start, int times) {
        seed = start;
        for (int k = 0; k < times; k++) {
            int kind = new int[] {0, 1, 2, 3, 3, 4, 5, 6}[below(8)];
            int many = kind == 4 ? personAt.length : playerAt.length;
            if (kind == 6) {
                rest();
            } else if (many > 0) {
                int who = below(many);
                act(kind, who, kind >= 3 ? below(4) : -1);
            }
        }
    }

    private static int bits(boolean[] which) {
        int all = 0;
        for (int k = 0; k < which.length; k++) {
            all |= which[k] ? 1 << k : 0;
        }
        return all;
    }

    int state(int what) {
        int k = what % 10;
        switch (what / 10) {
            case 0: return what < 0 || what > 2 ? -2 : what == 0 ? bits(stands) : what == 1 ? bits(toldOf) : obeyed;
            case 1: return k < personAt.length ? personAt[k] : -2;
            case 2: return k < personAt.length ? heardLast[k] : -2;
            case 3: return k < personAt.length ? heardOften[k] : -2;
            case 4: return k < playerAt.length ? playerAt[k] : -2;
            default: return -2;
        }
    }
}
