import java.util.ArrayList;
import java.util.List;
import java.util.function.ToIntFunction;

/**
 * A refused call answers as its promise says and leaves all as it was; a call that only tells changes nothing either
 * (promises 2 to 31).
 */
public final class RefusedTest {
    private static final int NONE = CityChords.NONE;
    private static final int MIN = Integer.MIN_VALUE;
    private static final int MAX = Integer.MAX_VALUE;
    private static final int[] NO_SECOND = {-2, -1, 1, 2, 3, MIN, MAX};
    private static final int[] NO_THIRD = {-2, -1, 2, 3, 4, MIN, MAX};

    private record Call(String name, ToIntFunction<CityChords> call, int due) {
    }

    private static final List<Call> CALLS = new ArrayList<>();

    public static void main(String[] args) {
        Check c = new Check();
        String one = World.whole(World.one());
        String two = World.whole(World.two());
        c.due("one and two are unlike", one.equals(two), false);
        noSuchIndex(NO_SECOND);
        otherWhats(0);
        wrongTapes();
        change(c, World.one(), one, false);
        CALLS.clear();
        noSuchIndex(NO_THIRD);
        otherWhats(0);
        otherWhats(1);
        wrongTapes();
        change(c, World.two(), two, true);
        CALLS.clear();
        telling();
        change(c, World.two(), two, true);
        texts(c, one, two);
        othersStand(c);
        c.close();
    }

    private static void add(String name, int due, ToIntFunction<CityChords> call) {
        CALLS.add(new Call(name, call, due));
    }

    /** Each call on an object of its own, and many on one. */
    private static void change(Check c, CityChords all, String whole, boolean two) {
        int calls = 0;
        for (Call call : CALLS) {
            CityChords x = two ? World.two() : World.one();
            c.due(call.name, call.call.applyAsInt(x), call.due);
            c.due(call.name + " leaves all as it was", World.whole(x).equals(whole), true);
            if (calls++ < 100) {
                call.call.applyAsInt(all);
            }
        }
        c.due("many calls leave all as it was", World.whole(all).equals(whole), true);
    }

    private static void noSuchIndex(int[] wrong) {
        for (int k : wrong) {
            add("P6 city " + k, NONE, x -> x.city(k, 0));
            add("P7 night " + k, -2, x -> x.deed(k, NONE, 0));
            add("P7 night " + k + " deed 0", -2, x -> x.deed(k, 0, 0));
            add("P8 city " + k, NONE, x -> x.stop(k, 0));
            add("P8 night " + k, NONE, x -> x.stop(0, k));
            add("P9 city " + k, -2, x -> x.state(k, 0, 0, 0));
            add("P9 night " + k, -2, x -> x.state(0, k, 0, 0));
            add("P10 city " + k, NONE, x -> x.hears(k, 0, 0));
            add("P11 city " + k, NONE, x -> x.enough(k));
            add("P12 city " + k, NONE, x -> x.fresh(k, 0, 1, 0));
            add("P13 city " + k, NONE, x -> x.gather(k, 0, 0, 1, false));
            add("P14 city " + k, NONE, x -> x.chase(k, 0, 0));
            add("P15 city " + k, NONE, x -> x.programme(k, 3, NONE));
            add("P16 city " + k, NONE, x -> x.part(k, 0, false));
            add("P17 city " + k, NONE, x -> x.line(k));
            add("P18 trial " + k, -2, x -> x.trial(k, 0));
            add("P19 trial " + k, -2, x -> x.thieves(k, 0));
            add("P20 sight " + k, -2, x -> x.fact(k, NONE, 0));
            add("P21 city " + k, -2, x -> x.seen(k, 0, 0));
            add("P21 sight " + k, -2, x -> x.seen(0, k, 0));
            add("P22 city " + k, -2, x -> x.drawn(k, 1, 1, 0));
            add("P23 city " + k, NONE, x -> x.steps(k, 0, 0));
            add("P24 city " + k, NONE, x -> x.blocks(k, true));
            add("P25 city " + k, NONE, x -> x.cordon(k, 0, 5));
            add("P26 city " + k, NONE, x -> x.square(k, false));
            add("P27 city " + k, NONE, x -> x.silent(k));
            add("P28 city " + k, NONE, x -> x.round(k, 0));
        }
    }

    /** Others than those that CITY, NIGHT and so on k has, whichever of the two worlds' it is. */
    private static void otherWhats(int k) {
        for (int wrong : new int[] {-1, -2, 64, 70, 300, MIN, MAX}) {
            add("P5 what " + wrong, NONE, x -> x.fault(wrong));
            add("P6 what " + wrong, NONE, x -> x.city(k, wrong));
            add("P7 what " + wrong, -2, x -> x.deed(k, 0, wrong));
            add("P7 how many, what " + wrong, -2, x -> x.deed(k, NONE, wrong));
            add("P9 what " + wrong, -2, x -> x.state(k, k, 0, wrong));
            add("P10 player " + wrong, NONE, x -> x.hears(k, wrong, 0));
            add("P10 cell " + wrong, NONE, x -> x.hears(k, 0, wrong));
            add("P12 instrument " + wrong, NONE, x -> x.fresh(k, wrong, 1, 0));
            add("P12 n " + wrong, NONE, x -> x.fresh(k, 0, wrong, 0));
            add("P12 what " + wrong, NONE, x -> x.fresh(k, 0, 2, wrong));
            add("P13 player " + wrong, NONE, x -> x.gather(k, wrong, 0, 1, false));
            add("P13 person " + wrong, NONE, x -> x.gather(k, 0, wrong, 1, true));
            add("P14 player " + wrong, NONE, x -> x.chase(k, wrong, 0));
            add("P14 person " + wrong, NONE, x -> x.chase(k, 0, wrong));
            add("P15 n " + wrong, NONE, x -> x.programme(k, wrong, NONE));
            add("P18 what " + wrong, -2, x -> x.trial(k, wrong));
            add("P19 what " + wrong, -2, x -> x.thieves(k, wrong));
            add("P20 what " + wrong, -2, x -> x.fact(0, 0, wrong));
            add("P20 how many, what " + wrong, -2, x -> x.fact(k, NONE, wrong));
            add("P21 what " + wrong, -2, x -> x.seen(k, k, wrong));
            add("P22 what " + wrong, -2, x -> x.drawn(k, 1, 60, wrong));
            add("P22 n " + wrong, -2, x -> x.drawn(k, 1, wrong == 64 ? 61 : wrong, 0));
            add("P23 from " + wrong, NONE, x -> x.steps(k, wrong, 0));
            add("P23 to " + wrong, NONE, x -> x.steps(k, 0, wrong));
            add("P25 cell " + wrong, NONE, x -> x.cordon(k, 0, wrong));
            add("P28 player " + wrong, NONE, x -> x.round(k, wrong));
            add("P29 sort " + wrong, -2, x -> x.count(wrong));
            add("P30 image " + wrong, 0, x -> x.image(wrong) ? 1 : 0);
            add("P31 again " + wrong, 0, x -> x.again(wrong) ? 1 : 0);
        }
        for (int wrong : new int[] {3, 4, 13, 60, MAX, MIN, -3}) {
            add("P15 k " + wrong, NONE, x -> x.programme(k, 3, wrong));
        }
        for (int wrong : new int[] {-2, -3, 9, MIN, MAX}) {
            add("P16 column " + wrong, NONE, x -> x.part(k, wrong, false));
            add("P9 n " + wrong, -2, x -> x.state(k, k, wrong, 0));
            add("P7 deed " + wrong, -2, x -> x.deed(k, wrong, 0));
            add("P20 fact " + wrong, -2, x -> x.fact(k, wrong, 0));
        }
        add("P13 both are one", NONE, x -> x.gather(k, 0, 0, 0, false));
        add("P25 both are one", NONE, x -> x.cordon(k, 0, 0));
        add("P25 next to one another", NONE, x -> x.cordon(k, 0, 1));
        add("P23 from a wall", NONE, x -> x.steps(0, 4, 0));
        add("P23 to a wall", NONE, x -> x.steps(0, 0, 4));
        add("P25 a wall", NONE, x -> x.cordon(0, 4, 2));
        add("P12 no second", NONE, x -> x.fresh(k, 0, 1, 2));
        add("P9 behind stop", -2, x -> x.state(0, 0, x.stop(0, 0) + 1, 0));
        add("P30 image 3", 0, x -> x.image(3) ? 1 : 0);
        add("P31 again 3", 0, x -> x.again(3) ? 1 : 0);
        add("P31 no image 0", 0, x -> x.again(0) ? 1 : 0);
        add("P31 no image 1", 0, x -> x.again(1) ? 1 : 0);
    }

    /** The tape has 20 bytes: filled with 570 more it has no room for 20, and is cut to 20 again. */
    private static void wrongTapes() {
        for (int wrong : new int[] {21, 22, 600, 601, -1, -2, MIN, MAX}) {
            add("P3 end " + wrong, NONE, x -> x.end(wrong));
        }
        add("P2 feed without room", NONE, x -> {
            for (int k = 0; k < 29; k++) {
                x.feed(1, 2, 3, 4, 5);
            }
            int refused = x.feed(6, 7, 8, 9, 10);
            x.end(20);
            return refused;
        });
    }

    /** Calls that are not refused, and only tell: what they answer stands in the other tests. */
    private static void telling() {
        add("P5 fault", 2, x -> x.fault(0));
        add("P6 city", 3, x -> x.city(0, 0));
        add("P7 deed", 3, x -> x.deed(0, 1, 0));
        add("P8 stop", 6, x -> x.stop(0, 0));
        add("P9 state, a player", 2, x -> x.state(0, 0, 6, 41));
        add("P9 state, a person", 1, x -> x.state(0, 0, 6, 10));
        add("P10 hears", 3, x -> x.hears(0, 0, 5));
        add("P11 enough", 1, x -> x.enough(0));
        add("P12 fresh", 0, x -> x.fresh(0, 3, 2, 0));
        add("P13 gather", 3, x -> x.gather(0, 0, 0, 1, false));
        add("P14 chase", 1, x -> x.chase(0, 0, 1));
        add("P15 programme", 30, x -> x.programme(0, 4, NONE));
        add("P15 habit", 24, x -> x.programme(0, 4, -2));
        add("P16 part", 1, x -> x.part(0, NONE, false));
        add("P17 line", 1, x -> x.line(0));
        add("P18 trial", 3, x -> x.trial(0, 0));
        add("P19 thieves", 2, x -> x.thieves(0, 0));
        add("P19 thieves, ask", 2, x -> x.thieves(0, 3));
        add("P19 thieves, broken", 0, x -> x.thieves(0, 4));
        add("P20 fact", 2, x -> x.fact(0, NONE, 0));
        add("P21 seen", 0, x -> x.seen(0, 0, 0));
        add("P21 seen, listen", 0, x -> x.seen(1, 1, 2));
        add("P22 drawn", 1, x -> x.drawn(0, 5, 60, 40) >= 0 ? 1 : 0);
        add("P23 steps", 3, x -> x.steps(0, 0, 5));
        add("P24 blocks", 5, x -> x.blocks(0, true));
        add("P25 cordon", 1, x -> x.cordon(0, 0, 5));
        add("P26 square", 1, x -> x.square(0, false));
        add("P27 silent", 0, x -> x.silent(0));
        add("P28 round", 4, x -> x.round(0, 0));
        add("P29 count", 2, x -> x.count(0));
        add("P30 image 0", 1, x -> x.image(0) ? 1 : 0);
        add("P30 image 1", 1, x -> x.image(1) ? 1 : 0);
        add("P3 end where it is", 20, x -> x.end(20));
    }

    /** A refused text: the tape is empty, the FAULT 0 (-2) or another (NONE); all else as it was. */
    private static void texts(Check c, String one, String two) {
        for (int many = 1; many <= 2; many++) {
            for (int sort = -1; sort <= 4; sort++) {
                for (int at : new int[] {-2, -1, 0, 1, 2, MIN, MAX}) {
                    boolean further = sort >= 0 && sort < 4 && at == NONE && many < 2;
                    boolean instead = sort >= 0 && sort < 4 && at >= 0 && at < many;
                    int due = further || instead ? NONE : -2;
                    CityChords x = many == 1 ? World.one() : World.two();
                    String before = World.seen(x).replaceFirst("fault.*", "");
                    Check.put(x, "wind 9;stand 9;loud 9;voices 9;");
                    String name = "P4 sort " + sort + " at " + at + " of " + many + ": ";
                    c.due(name + "text", x.text(sort, at), due);
                    c.due(name + "fault", x.fault(0), due == NONE ? 1 : 0);
                    c.due(name + "place", x.fault(1), due == -2 ? NONE : sort == 0 ? 7 : 0);
                    c.due(name + "the tape is empty", x.end(1), NONE);
                    c.due(name + "all else is as it was", World.seen(x).replaceFirst("fault.*", "").equals(before), true);
                    Check.tell(x, 0, "wind 7;", 0);
                    Check.put(x, World.TAPE);
                    c.due(name + "and told again", World.whole(x).equals(many == 1 ? one : two), true);
                }
            }
        }
    }

    /** A text that is taken changes the one in its place alone: each sort, each place. */
    private static void othersStand(Check c) {
        String[] texts = {"size 5 2;wall 4 1;drum 0 1;citizen 1 1;", "tell 3;go 2 2;rest;", "voices 7;says 6 0;", "loud 7 7;"};
        String[] names = {"city", "night", "trial", "sight"};
        for (int sort = 0; sort < 4; sort++) {
            for (int at = 0; at <= 1; at++) {
                CityChords x = World.two();
                String[] before = World.seen(x).split("\n");
                c.due("P4 " + names[sort] + " in place " + at, Check.tell(x, sort, texts[sort], at), at);
                String[] then = World.seen(x).split("\n");
                c.due("P4 as many lines", then.length, 9);
                for (int k = 1; k < 9; k++) {
                    boolean its = before[k].startsWith(names[sort] + " " + at + ":");
                    c.due("P4 " + names[sort] + " " + at + " struck: " + before[k], then[k].equals(before[k]), !its);
                }
            }
            CityChords x = World.one();
            String before = World.seen(x).replaceFirst("fault.*", "");
            c.due("P4 a further " + names[sort], Check.tell(x, sort, texts[sort]), 1);
            String then = World.seen(x).replaceFirst("fault.*", "").replaceFirst("\n" + names[sort] + " 1:.*", "");
            c.due("P4 a further " + names[sort] + " leaves the others", then.equals(before), true);
        }
    }
}
