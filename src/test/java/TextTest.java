/** Promises 1 to 5 and 29: a new object, feed, end, text, fault, count. */
public final class TextTest {
    private static final int NONE = CityChords.NONE;

    public static void main(String[] args) {
        Check c = new Check();
        newObject(c);
        tape(c);
        places(c);
        tokens(c);
        words(c);
        numbers(c);
        tooMany(c);
        wholeTexts(c);
        orderOfFaults(c);
        c.close();
    }

    private static void newObject(Check c) {
        CityChords x = new CityChords();
        for (int sort = 0; sort < 4; sort++) {
            c.due("new count " + sort, x.count(sort), 0);
        }
        c.due("count -1", x.count(-1), -2);
        c.due("count 4", x.count(4), -2);
        for (int k = -1; k <= 3; k++) {
            c.due("new again " + k, x.again(k), false);
        }
        c.due("new fault", x.fault(0), 0);
        c.due("new fault place", x.fault(1), NONE);
        c.due("new fault 2", x.fault(2), NONE);
        c.due("new fault -1", x.fault(-1), NONE);
        c.due("new end", x.end(1), NONE);
        c.due("new end 0", x.end(0), 0);
        c.due("NONE", CityChords.NONE, -1);
    }

    private static void tape(Check c) {
        CityChords x = new CityChords();
        for (int k = 1; k <= 30; k++) {
            c.due("feed " + k, x.feed(0x20202020, 0x20202020, 0x20202020, 0x20202020, 0x20202020), 20 * k);
        }
        c.due("feed 31", x.feed(0, 0, 0, 0, 0), NONE);
        c.due("end 601", x.end(601), NONE);
        c.due("end -1", x.end(-1), NONE);
        c.due("end min", x.end(Integer.MIN_VALUE), NONE);
        c.due("end 600", x.end(600), 600);
        c.due("end 581", x.end(581), 581);
        c.due("feed at 581", x.feed(0, 0, 0, 0, 0), NONE);
        c.due("end 580", x.end(580), 580);
        c.due("end 581 again", x.end(581), NONE);
        c.due("feed at 580", x.feed(0, 0, 0, 0, 0), 600);
        c.due("a zero byte at 580", x.text(0, NONE), NONE);
        c.due("its fault", x.fault(0), 1);
        c.due("its place", x.fault(1), 580);
        // 'rest', '; s', 'tan', 'd 3;' with the highest byte first
        x.feed(0x72657374, 0x3b207374, 0x616e6420, 0x333b0a20, 0x20202020);
        c.due("bytes in their order", x.text(1, NONE), 0);
        c.due("deeds", x.deed(0, NONE, 0), 2);
        c.due("deed 1", x.deed(0, 1, 1), 3);
        StringBuilder most = new StringBuilder();
        for (int k = 0; k < 599; k++) {
            most.append(' ');
        }
        Check.put(x, most + "x");
        c.due("text of 600 bytes", x.text(1, NONE), NONE);
        c.due("fault in byte 599", x.fault(1), 599);
    }

    private static void places(Check c) {
        for (int sort = 0; sort < 4; sort++) {
            CityChords x = new CityChords();
            c.due("first", x.text(sort, NONE), 0);
            c.due("no second in place", Check.tell(x, sort, "x", 1), -2);
            c.due("fault of -2", x.fault(0), 0);
            c.due("place of -2", x.fault(1), NONE);
            c.due("tape of -2", x.end(1), NONE);
            c.due("second", x.text(sort, NONE), 1);
            c.due("no third", Check.tell(x, sort, "x"), -2);
            c.due("fault of third", x.fault(0), 0);
            c.due("tape of third", x.end(1), NONE);
            c.due("in place 0", x.text(sort, 0), 0);
            c.due("in place 1", x.text(sort, 1), 1);
            c.due("in place 2", x.text(sort, 2), -2);
            c.due("in place -2", x.text(sort, -2), -2);
            c.due("in place min", x.text(sort, Integer.MIN_VALUE), -2);
            c.due("in place max", x.text(sort, Integer.MAX_VALUE), -2);
            c.due("many", x.count(sort), 2);
            c.due("a fault in place", Check.tell(x, sort, "x", 0), NONE);
            c.due("many still", x.count(sort), 2);
            c.due("its fault", x.fault(0), 1);
            c.due("fault gone", x.text(sort, 1), 1);
            c.due("no fault", x.fault(0), 0);
        }
        CityChords x = new CityChords();
        c.due("sort 4", Check.tell(x, 4, "x"), -2);
        c.due("sort 4 fault", x.fault(0), 0);
        c.due("sort 4 tape", x.end(1), NONE);
        c.due("sort -1", Check.tell(x, -1, "x"), -2);
        c.due("sort -1 in place", Check.tell(x, -1, "x", 0), -2);
        Check.tell(x, 0, "size 3 4;");
        Check.tell(x, 0, "size 5 2;", 0);
        c.due("struck", x.city(0, 0), 5);
        Check.tell(x, 0, "size 2 2;wall 5 5;", 0);
        c.due("a fault leaves the city", x.city(0, 0), 5);
    }

    private static void tokens(Check c) {
        c.faulty(0, "", 0, NONE);
        c.faulty(0, " \n ", 0, NONE);
        c.faulty(0, "\n size\n4   3 ;\nwind 1\n;", 0, NONE);
        c.faulty(0, "size4 3;wall1 1;", 0, NONE);
        c.faulty(0, "size 04 03;", 0, NONE);
        c.faulty(0, "size 4 3", 1, 8);
        c.faulty(0, "size 4 3  ", 1, 10);
        c.faulty(0, "size 4", 1, 6);
        c.faulty(0, "size", 1, 4);
        c.faulty(0, "size 4 3;;", 1, 9);
        c.faulty(0, ";", 1, 0);
        c.faulty(0, " 4 4;", 1, 1);
        c.faulty(0, "size 4 3 2;", 1, 9);
        c.faulty(0, "size 43;", 1, 7);
        c.faulty(0, "size 4,3;", 1, 6);
        c.faulty(0, "size 4\t3;", 1, 6);
        c.faulty(0, "size 4\r3;", 1, 6);
        c.faulty(0, "size -4 3;", 1, 5);
        c.faulty(0, "Size 4 3;", 1, 0);
        c.faulty(0, "siZe 4 3;", 1, 0);
        c.faulty(0, "sizes 4 3;", 1, 0);
        c.faulty(0, "siz 4 3;", 1, 0);
        c.faulty(0, "si ze 4 3;", 1, 0);
        c.faulty(0, "size x 3;", 1, 5);
        c.faulty(0, "size 003 4;", 1, 5);
        c.faulty(0, "size 4 0000000000000000000000003;", 1, 7);
        c.faulty(0, "size 99999999999999999999 3;", 1, 5);
        c.faulty(0, "123 4;", 1, 0);
        c.faulty(0, "size 4 3" + (char) 233, 1, 8);
        c.faulty(0, "" + (char) 0, 1, 0);
        c.faulty(0, "value hum 1;", 1, 6);
        c.faulty(0, "value walk 1;", 1, 6);
        c.faulty(0, "value 1;", 1, 6);
        c.faulty(0, "value stand;", 1, 11);
        c.faulty(0, "value tell 1 2;", 1, 13);
        c.faulty(0, "stand 0;", 1, 0);
        c.faulty(0, "wind 1 2;", 1, 7);
        c.faulty(0, "fiddle 1;", 1, 8);
        c.faulty(1, "rest 1;", 1, 5);
        c.faulty(1, "go 0;", 1, 4);
        c.faulty(1, "march 0;", 1, 7);
        c.faulty(1, "stand 0 0;", 1, 8);
        c.faulty(1, "stand;", 1, 5);
        c.faulty(1, "size 4 4;", 1, 0);
        c.faulty(2, "says 0;", 1, 6);
        c.faulty(2, "voices 1 1;", 1, 9);
        c.faulty(2, "thieves;", 1, 7);
        c.faulty(2, "thief 0;", 1, 0);
        c.faulty(2, "loud 0 0;", 1, 0);
        c.faulty(3, "loud 0;", 1, 6);
        c.faulty(3, "loud 0 0 0;", 1, 9);
        c.faulty(3, "says 0 0;", 1, 0);
    }

    /** Every word with every letter changed, cut off or doubled is none. */
    private static void words(Check c) {
        String[] lines = {"size 4 4;", "wall 1 1;", "fiddle 1 1;", "flute 1 1;", "drum 1 1;", "horn 1 1;", "citizen 1 1;",
            "thief 1 1;", "child 1 1;", "deaf 1 1;", "wind 1;", "value 1;", "stand 1;", "free 1;", "tell 1;", "march 1 1;",
            "walk 1 1;", "go 1 1;", "rest;", "says 1 1;", "denies 1 1;", "voices 1;", "thieves 1;", "loud 1 1;", "quiet 1 1;"};
        for (int k = 0; k < lines.length; k++) {
            int sort = k < 12 ? 0 : k < 19 ? 1 : k < 23 ? 2 : 3;
            String line = lines[k];
            int length = line.split("[ ;]")[0].length();
            if (k != 11) {
                c.faulty(sort, line, 0, NONE);
            }
            for (int at = 0; at < length; at++) {
                c.faulty(sort, line.substring(0, at) + "x" + line.substring(at + 1), 1, 0);
                c.faulty(sort, line.substring(0, at) + line.substring(at + 1), 1, 0);
                c.faulty(sort, line.substring(0, at) + line.charAt(at) + line.substring(at), 1, 0);
            }
            for (int other = 0; other < 4; other++) {
                if (other != sort) {
                    c.faulty(other, line, 1, 0);
                }
            }
        }
        for (String command : new String[] {"stand", "free", "tell", "march"}) {
            c.faulty(0, "value " + command + " 1;", 0, NONE);
            c.faulty(0, "value x" + command.substring(1) + " 1;", 1, 6);
        }
    }

    private static void numbers(Check c) {
        c.faulty(0, "size 2 8;size 8 2;", 0, NONE);
        c.faulty(0, "size 9 2;", 2, 5);
        c.faulty(0, "size 1 2;", 2, 5);
        c.faulty(0, "size 2 9;", 2, 7);
        c.faulty(0, "size 2 1;", 2, 7);
        c.faulty(0, "size 2 0;", 2, 7);
        c.faulty(0, "size 9 9;", 2, 5);
        c.faulty(0, "size 9 3;size 3 3;", 2, 5);
        c.faulty(0, "wall 8 0;", 2, 5);
        c.faulty(0, "wall 0 8;", 2, 7);
        c.faulty(0, "fiddle 8 0;", 2, 7);
        c.faulty(0, "flute 0 10;", 2, 8);
        c.faulty(0, "deaf 0 99;", 2, 7);
        c.faulty(0, "wind 4;", 0, NONE);
        c.faulty(0, "wind 0;", 0, NONE);
        c.faulty(0, "wind 5;", 2, 5);
        c.faulty(0, "value tell 10;", 2, 11);
        c.faulty(0, "value tell 9;value march 0;", 0, NONE);
        c.faulty(1, "stand 5;", 0, NONE);
        c.faulty(1, "stand 6;", 2, 6);
        c.faulty(1, "free 6;", 2, 5);
        c.faulty(1, "tell 10;", 2, 5);
        c.faulty(1, "march 5 3;walk 5 3;go 5 3;", 0, NONE);
        c.faulty(1, "march 6 0;", 2, 6);
        c.faulty(1, "march 0 4;", 2, 8);
        c.faulty(1, "walk 6 0;", 2, 5);
        c.faulty(1, "go 0 4;", 2, 5);
        c.faulty(2, "voices 0;", 2, 7);
        c.faulty(2, "voices 9;", 2, 7);
        c.faulty(2, "voices 1;voices 8;", 0, NONE);
        c.faulty(2, "thieves 9;", 2, 8);
        c.faulty(2, "thieves 0;thieves 8;", 0, NONE);
        c.faulty(2, "says 8 0;", 2, 5);
        c.faulty(2, "denies 0 8;", 2, 9);
        c.faulty(3, "loud 7 7;quiet 7 7;", 0, NONE);
        c.faulty(3, "loud 8 0;", 2, 5);
        c.faulty(3, "quiet 0 8;", 2, 8);
    }

    private static void tooMany(Check c) {
        c.faulty(0, "drum 0 0;".repeat(6), 0, NONE);
        c.faulty(0, "drum 0 0;".repeat(7), 3, 54);
        c.faulty(0, "drum 0 0;".repeat(8), 3, 54);
        c.faulty(0, "drum 0 0;".repeat(6) + "drum 9 0;", 3, 54);
        c.faulty(0, "drum 0 0;".repeat(5) + "fiddle 1 1; horn 1 1;", 3, 57);
        c.faulty(0, "drum 0 9;" + "drum 0 0;".repeat(6), 2, 7);
        c.faulty(0, "deaf 0 0;".repeat(6), 0, NONE);
        c.faulty(0, "deaf 0 0;".repeat(6) + "drum 0 0;".repeat(6), 0, NONE);
        c.faulty(0, "deaf 0 0;".repeat(6) + "drum 0 0;".repeat(6) + "thief 0 0;", 3, 108);
        c.faulty(0, "deaf 0 0;".repeat(6) + "drum 0 0;".repeat(6) + "drum 0 0;", 3, 108);
        c.faulty(0, "wall 0 0;".repeat(20), 0, NONE);
        c.faulty(1, "rest;".repeat(40), 0, NONE);
        c.faulty(1, "rest;".repeat(41), 3, 200);
        c.faulty(1, "rest;".repeat(40) + "go 9 9;", 3, 200);
        c.faulty(1, "rest;".repeat(39) + "go 0 9;rest;", 2, 200);
        c.faulty(2, "says 0 1;".repeat(12), 0, NONE);
        c.faulty(2, "says 0 1;".repeat(12) + "denies 0 1;", 3, 108);
        c.faulty(2, "says 0 1;".repeat(12) + "voices 3;thieves 1;", 0, NONE);
        c.faulty(3, "loud 0 0;".repeat(10), 0, NONE);
        c.faulty(3, "loud 0 0;".repeat(10) + "\nquiet 0 0;", 3, 91);
    }

    private static void wholeTexts(Check c) {
        c.faulty(0, "wall 5 5;", 0, NONE);
        c.faulty(0, "wall 6 0;", 4, 9);
        c.faulty(0, "wall 6 0; ", 4, 10);
        c.faulty(0, "fiddle 0 6;", 4, 11);
        c.faulty(0, "child 7 7;", 4, 10);
        c.faulty(0, "wall 7 7;size 8 8;", 0, NONE);
        c.faulty(0, "size 8 8;wall 7 7;size 4 4;", 4, 27);
        c.faulty(0, "size 2 8;wall 2 0;", 4, 18);
        c.faulty(0, "size 8 2;wall 7 1;", 0, NONE);
        c.faulty(0, "wall 0 0;horn 0 0;", 5, 18);
        c.faulty(0, "child 0 0;wall 0 0;", 5, 19);
        c.faulty(0, "child 0 0;horn 0 0;thief 0 0;", 0, NONE);
        c.faulty(0, "wall 0 0;horn 0 0;wall 6 0;", 4, 27);
        c.faulty(0, "wall 0 0;wall 0 0;", 0, NONE);
        c.faulty(0, "wall 7 0;horn 7 0;", 4, 18);
        for (String name : new String[] {"horn", "deaf"}) {
            String others = name + " 1 1;" + name + " 2 1;";
            c.faulty(0, "wall 0 0;" + name + " 0 0;" + others, 5, 36);
            c.faulty(0, name + " 0 6;" + others, 4, 27);
            c.faulty(0, "wall 2 1;" + others + name + " 0 0;", 5, 36);
        }
        c.faulty(0, "wall 7 0;wall 1 1;", 4, 18);
        c.faulty(2, "says 4 0;", 4, 9);
        c.faulty(2, "denies 0 4;", 4, 11);
        c.faulty(2, "says 3 3;", 0, NONE);
        c.faulty(2, "says 7 7;voices 8;", 0, NONE);
        c.faulty(2, "says 1 1;voices 1;", 4, 18);
        c.faulty(2, "thieves 8;voices 1;", 0, NONE);
    }

    private static void orderOfFaults(Check c) {
        c.faulty(0, "size 9 9;wall 0 0;x", 1, 18);
        c.faulty(0, "drum 0 0;".repeat(7) + "size 1 1;drum", 1, 76);
        c.faulty(0, "drum 0 0;".repeat(7) + "size 1 1;", 3, 54);
        c.faulty(0, "wall 6 0;wind 9;", 2, 14);
        c.faulty(0, "wall 0 0;horn 0 0;wind 9;", 2, 23);
        c.faulty(2, "says 4 0;says 0 9;", 2, 16);
        c.faulty(1, "go 9 9;go 0", 1, 11);
        CityChords x = new CityChords();
        Check.tell(x, 0, "x");
        c.due("fault stays with the latest text", x.fault(0), 1);
        Check.put(x, "rest;");
        c.due("feed and end leave it", x.fault(0), 1);
        x.text(7, 7);
        c.due("-2 ends it", x.fault(0), 0);
    }
}
