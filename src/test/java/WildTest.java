import com.sun.management.ThreadMXBean;
import java.lang.management.ManagementFactory;
import java.util.Random;

/**
 * Any number to any call, in any state: 512 calls on each of many objects, drawn by fixed seeds. None throws, none
 * makes an object, and the same calls give the same answers.
 */
public final class WildTest {
    private static final int[] EDGES = {0, 1, 2, 3, -1, -2, -3, 4, 5, 6, 7, 8, 9, 10, 11, 12, 13, 20, 30, 40, 50, 60, 61, 63,
        64, 100, 163, 164, 600, 601, Integer.MAX_VALUE, Integer.MIN_VALUE, Integer.MAX_VALUE - 1, Integer.MIN_VALUE + 1};
    private static final String[] WORDS = {"fiddle", "flute", "drum", "horn", "citizen", "thief", "child", "deaf", "wall",
        "size", "wind", "value", "stand", "free", "tell", "march", "walk", "go", "rest", "says", "denies", "voices", "thieves",
        "loud", "quiet", ";", ";", "0", "1", "2", "3", "4", "5", "6", "7", "8", "9", "10", "123", "#"};
    private static final String[][] LINES = {
        {"size 8 8;", "size 4 3;", "fiddle 1 2;", "flute 3 0;", "drum 2 2;", "horn 0 0;", "citizen 1 1;", "thief 2 0;",
            "child 0 2;", "deaf 3 2;", "wall 3 1;", "wall 0 1;", "wind 2;", "value tell 7;", "value stand 0;"},
        {"stand 0;", "free 1;", "tell 0;", "march 0 1;", "march 1 2;", "walk 0 0;", "walk 1 3;", "go 0 1;", "go 1 2;", "rest;"},
        {"voices 5;", "voices 8;", "thieves 2;", "says 0 1;", "says 2 3;", "denies 1 2;", "denies 3 0;", "says 4 4;"},
        {"loud 0 0;", "quiet 3 2;", "loud 2 1;", "quiet 1 1;", "loud 7 7;"},
    };

    public static void main(String[] args) {
        Check c = new Check();
        long answers = 0;
        for (int seed = 0; seed < 400; seed++) {
            answers += oneRun(new CityChords(), new Random(seed));
        }
        long again = 0;
        for (int seed = 0; seed < 400; seed++) {
            again += oneRun(new CityChords(), new Random(seed));
        }
        c.due("the same calls", again, answers);
        c.due("bytes made by calls", bytesMade(), 0);
        c.close();
    }

    private static long oneRun(CityChords x, Random random) {
        long sum = 0;
        for (int calls = 0; calls < 512;) {
            if (random.nextInt(4) == 0) {
                int sort = random.nextInt(4);
                String text = someText(random, sort);
                calls += 3 + (text.length() + 19) / 20;
                if (calls > 512) {
                    return sum;
                }
                Check.put(x, text);
                sum = sum * 31 + x.text(sort, random.nextInt(3) - 1);
            } else {
                sum = sum * 31 + call(x, random, random.nextInt(31));
                calls++;
            }
        }
        return sum;
    }

    private static String someText(Random random, int sort) {
        StringBuilder all = new StringBuilder();
        boolean wild = random.nextInt(3) == 0;
        for (int k = random.nextInt(30); k > 0; k--) {
            String[] from = wild ? WORDS : LINES[sort];
            all.append(from[random.nextInt(from.length)]).append(wild ? " " : "");
        }
        return all.toString();
    }

    private static int any(Random random) {
        int kind = random.nextInt(10);
        return kind < 6 ? random.nextInt(3) : kind < 9 ? EDGES[random.nextInt(EDGES.length)] : random.nextInt();
    }

    private static int call(CityChords x, Random random, int which) {
        int a = any(random);
        int b = any(random);
        int c = any(random);
        int d = any(random);
        boolean yes = random.nextBoolean();
        switch (which) {
            case 0: return x.feed(a, b, c, d, a);
            case 1: return x.end(a);
            case 2: return x.text(a, b);
            case 3: return x.fault(a);
            case 4: return x.city(a, b);
            case 5: return x.deed(a, b, c);
            case 6: return x.stop(a, b);
            case 7: return x.state(a, b, c, d);
            case 8: return x.hears(a, b, c);
            case 9: return x.enough(a);
            case 10: return x.fresh(a, b, c, d);
            case 11: return x.gather(a, b, c, d, yes);
            case 12: return x.chase(a, b, c);
            case 13: return x.programme(a, b, c);
            case 14: return x.part(a, b, yes);
            case 15: return x.line(a);
            case 16: return x.trial(a, b);
            case 17: return x.thieves(a, b);
            case 18: return x.fact(a, b, c);
            case 19: return x.seen(a, b, c);
            case 20: return x.drawn(a, b, c, d);
            case 21: return x.steps(a, b, c);
            case 22: return x.blocks(a, yes);
            case 23: return x.cordon(a, b, c);
            case 24: return x.square(a, yes);
            case 25: return x.silent(a);
            case 26: return x.round(a, b);
            case 27: return x.count(a);
            case 28: return x.image(a) ? 1 : 0;
            case 29: return x.again(a) ? 1 : 0;
            default: return x.fault(0);
        }
    }

    /** What the dearest calls make in the machine's heap. */
    private static long bytesMade() {
        CityChords x = Check.cityOf("size 8 8;horn 3 3;flute 1 1;thief 7 7;citizen 0 7;child 4 4;deaf 6 1;wall 2 2;wall 5 5;");
        Check.tell(x, Check.NIGHT, "march 0 1;rest;go 0 1;stand 1;");
        Check.tell(x, Check.TRIAL, "voices 8;says 0 1;");
        Check.tell(x, Check.SIGHT, "loud 4 4;");
        ThreadMXBean threads = (ThreadMXBean) ManagementFactory.getThreadMXBean();
        long thread = Thread.currentThread().getId();
        everyCall(x);
        threads.getThreadAllocatedBytes(thread);
        long before = threads.getThreadAllocatedBytes(thread);
        long nothing = threads.getThreadAllocatedBytes(thread) - before;
        before = threads.getThreadAllocatedBytes(thread);
        for (int k = 0; k < 3; k++) {
            everyCall(x);
        }
        return threads.getThreadAllocatedBytes(thread) - before - nothing;
    }

    private static void everyCall(CityChords x) {
        x.feed(0x72657374, 0x3b202020, 0x20202020, 0x20202020, 0x20202020);
        x.text(1, 0);
        x.image(0);
        x.again(0);
        x.stop(0, 0);
        x.state(0, 0, 1, 10);
        x.hears(0, 0, 60);
        x.enough(0);
        x.fresh(0, 3, 2, 1);
        x.gather(0, 0, 0, 1, false);
        x.chase(0, 0, 0);
        x.programme(0, 12, 11);
        x.programme(0, 12, -2);
        x.part(0, -1, false);
        x.line(0);
        x.thieves(0, 3);
        x.thieves(0, 5);
        x.seen(0, 0, 2);
        x.drawn(0, 7, 60, 2);
        x.steps(0, 0, 63);
        x.blocks(0, true);
        x.cordon(0, 0, 63);
        x.square(0, true);
        x.silent(0);
        x.round(0, 0);
        x.city(0, 100);
        x.count(0);
        x.end(0);
    }
}
