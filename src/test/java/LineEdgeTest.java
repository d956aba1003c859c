/** The bounds that 'Terms' 1 sets for the lines of texts: tokens, NUMBERS, how many of each, FAULTS and their order. */
public final class LineEdgeTest {
    private static final int NONE = CityChords.NONE;

    /** A line's first words; what its NUMBERS may be, least and most in turn. */
    private record Line(int sort, String words, int... bounds) {
    }

    private static final Line[] LINES = {
        new Line(0, "size", 2, 8, 2, 8), new Line(0, "wall", 0, 7, 0, 7), new Line(0, "fiddle", 0, 7, 0, 7),
        new Line(0, "flute", 0, 7, 0, 7), new Line(0, "drum", 0, 7, 0, 7), new Line(0, "horn", 0, 7, 0, 7),
        new Line(0, "citizen", 0, 7, 0, 7), new Line(0, "thief", 0, 7, 0, 7), new Line(0, "child", 0, 7, 0, 7),
        new Line(0, "deaf", 0, 7, 0, 7), new Line(0, "wind", 0, 4), new Line(0, "value stand", 0, 9),
        new Line(0, "value free", 0, 9), new Line(0, "value tell", 0, 9), new Line(0, "value march", 0, 9),
        new Line(1, "stand", 0, 5), new Line(1, "free", 0, 5), new Line(1, "tell", 0, 5), new Line(1, "march", 0, 5, 0, 3),
        new Line(1, "walk", 0, 5, 0, 3), new Line(1, "go", 0, 5, 0, 3), new Line(1, "rest"),
        new Line(2, "says", 0, 7, 0, 7), new Line(2, "denies", 0, 7, 0, 7), new Line(2, "voices", 1, 8),
        new Line(2, "thieves", 0, 8), new Line(3, "loud", 0, 7, 0, 7), new Line(3, "quiet", 0, 7, 0, 7),
    };
    // What makes room for all that a line can tell.
    private static final String[] ROOM = {"size 8 8;", "", "voices 8;", ""};

    private static final String[] INSTRUMENTS = {"fiddle", "flute", "drum", "horn"};
    private static final String[] KINDS = {"citizen", "thief", "child", "deaf"};

    public static void main(String[] args) {
        Check c = new Check();
        for (Line line : LINES) {
            numbers(c, line);
            cutOff(c, line);
            goneOn(c, line);
            signs(c, line);
        }
        rowsOfDigits(c);
        manyPlayers(c);
        manyPeople(c);
        manyRows(c);
        manyWalls(c);
        notThere(c);
        noWitness(c);
        inAWall(c);
        order(c);
        strikes(c);
        c.close();
    }

    /** A line with one of its NUMBERS told by these signs, all others the least. */
    private static String with(Line line, int slot, String its) {
        StringBuilder all = new StringBuilder(ROOM[line.sort]).append(line.words);
        for (int k = 0; k < line.bounds.length / 2; k++) {
            all.append(' ').append(k == slot ? its : "" + line.bounds[2 * k]);
        }
        return all.append(';').toString();
    }

    /** Where the NUMBER stands in that. */
    private static int placeOf(Line line, int slot) {
        return ROOM[line.sort].length() + line.words.length() + 1 + 2 * slot;
    }

    /** All NUMBERS there are, of 1 and 2 digits: 2 one that can't be, 1 for all longer ones. */
    private static void numbers(Check c, Line line) {
        for (int slot = 0; slot < line.bounds.length / 2; slot++) {
            int place = placeOf(line, slot);
            for (int n = 0; n <= 99; n++) {
                boolean can = n >= line.bounds[2 * slot] && n <= line.bounds[2 * slot + 1];
                if (n < 10) {
                    c.faulty(line.sort, with(line, slot, "" + n), can ? 0 : 2, can ? NONE : place);
                }
                c.faulty(line.sort, with(line, slot, n / 10 + "" + n % 10), can ? 0 : 2, can ? NONE : place);
                c.faulty(line.sort, with(line, slot, "0" + n / 10 + n % 10), 1, place);
            }
            c.faulty(line.sort, with(line, slot, ""), 1, line.bounds.length == 4 && slot == 0 ? place + 2 : place);
            c.faulty(line.sort, with(line, slot, "4294967298"), 1, place);
            c.faulty(line.sort, with(line, slot, "0".repeat(300)), 1, place);
        }
    }

    /** The end comes too early behind each byte of a line but its last; FAULT 1 at the end's place or at half a word. */
    private static void cutOff(Check c, Line line) {
        String whole = with(line, NONE, "");
        int start = ROOM[line.sort].length();
        for (int n = start + 1; n < whole.length(); n++) {
            String part = whole.substring(0, n);
            int place = n;
            if (Character.isLetter(part.charAt(n - 1)) && Character.isLetter(whole.charAt(n))) {
                place = Math.max(start, part.lastIndexOf(' ') + 1);
            }
            c.faulty(line.sort, part, 1, place);
            if (place == n) {
                c.faulty(line.sort, part + " ", 1, n + 1);
                c.faulty(line.sort, part + " \n ", 1, n + 3);
            }
        }
    }

    /** One NUMBER, word or ; too much. */
    private static void goneOn(Check c, Line line) {
        String whole = with(line, NONE, "");
        String open = whole.substring(0, whole.length() - 1);
        c.faulty(line.sort, open + " 0;", 1, open.length() + 1);
        c.faulty(line.sort, open + " 00;", 1, open.length() + 1);
        c.faulty(line.sort, open + " a;", 1, open.length() + 1);
        c.faulty(line.sort, open + ";;", 1, open.length() + 1);
        c.faulty(line.sort, open + " ; ;", 1, open.length() + 3);
        c.faulty(line.sort, open + ":", 1, open.length());
        c.faulty(line.sort, open + "<", 1, open.length());
        c.faulty(line.sort, whole + "0", 1, whole.length());
        c.faulty(line.sort, whole + line.words.charAt(0), 1, whole.length());
        c.faulty(line.sort, whole + whole.substring(ROOM[line.sort].length()), 0, NONE);
        c.faulty(line.sort, "\n " + whole.replace(" ", " \n ").replace(";", "\n;\n") + " ", 0, NONE);
    }

    /** Each byte there is behind a line's word: blanks are 10 and 32 alone, letters a .. z, digits 0 .. 9. */
    private static void signs(Check c, Line line) {
        String whole = with(line, NONE, "");
        int behind = ROOM[line.sort].length() + line.words.length();
        int start = line.words.startsWith("value") ? ROOM[line.sort].length() + 6 : ROOM[line.sort].length();
        for (int sign = 0; sign < 256; sign++) {
            String text = whole.substring(0, behind) + (char) sign + whole.substring(behind);
            boolean blank = sign == 10 || sign == 32;
            boolean letter = sign >= 'a' && sign <= 'z';
            boolean digit = sign >= '0' && sign <= '9';
            if (blank) {
                c.faulty(line.sort, text, 0, NONE);
            } else if (letter) {
                c.faulty(line.sort, text, 1, start);
            } else if (digit && line.bounds.length > 0) {
                // A NUMBER right behind the word: one too many then.
                c.faulty(line.sort, text, 1, behind + line.bounds.length);
            } else if (sign != ';' && !digit && !letter) {
                c.faulty(line.sort, text, 1, behind);
            }
        }
        c.faulty(line.sort, whole.substring(0, behind) + ";" + whole.substring(behind), 1,
            line.bounds.length == 0 ? behind + 1 : behind);
    }

    /** A row of three digits is no token, wherever it stands: FAULT 1 at its first digit. */
    private static void rowsOfDigits(Check c) {
        c.faulty(0, "100;", 1, 0);
        c.faulty(0, "size100 2;", 1, 4);
        c.faulty(0, "size 2100;", 1, 5);
        c.faulty(0, "size 2 2 100;", 1, 9);
        c.faulty(0, "size 2 2;100", 1, 9);
        c.faulty(0, "size 2 2; 007", 1, 10);
        c.faulty(0, "size 02 02;", 0, NONE);
        c.faulty(0, "size 02 002;", 1, 8);
        c.faulty(0, "size 2 2;wall 1 1;", 0, NONE);
        c.faulty(0, "size 22;", 1, 7);
        c.faulty(0, "size 2\n2;", 0, NONE);
        c.faulty(0, "wind 1 1;", 1, 7);
        c.faulty(0, "wind 11;", 2, 5);
        c.faulty(0, "wind 111;", 1, 5);
    }

    private static String of(String[] names, int many, String rest) {
        StringBuilder all = new StringBuilder();
        for (int k = 0; k < many; k++) {
            all.append(names[k % names.length]).append(rest);
        }
        return all.toString();
    }

    /** FAULT 3 of a 7th PLAYER at its first token, whatever he plays; six PLAYERS, six PEOPLE are no 7th one. */
    private static void manyPlayers(Check c) {
        String six = of(INSTRUMENTS, 6, " 0 0;");
        String people = of(KINDS, 6, " 1 1;");
        for (String name : INSTRUMENTS) {
            c.faulty(0, six.substring(0, six.lastIndexOf(';', six.length() - 2) + 1) + name + " 0 0;", 0, NONE);
            c.faulty(0, six + name + " 0 0;", 3, six.length());
            c.faulty(0, six + " \n" + name + " 0 0;", 3, six.length() + 2);
            c.faulty(0, six + people + name + " 0 0;", 3, six.length() + people.length());
            c.faulty(0, people + six + name + " 0 0;", 3, six.length() + people.length());
            c.faulty(0, six + name + " 8 0;", 3, six.length());
            c.faulty(0, six + name + " 0 99;", 3, six.length());
            c.faulty(0, six + name + " 7 7;", 3, six.length());
            c.faulty(0, six + name + " 0 0;" + name + " 0 0;", 3, six.length());
            // A line whose NUMBER can't be tells its PLAYER all the same: its FAULT is the first by place.
            c.faulty(0, name + " 0 8;" + six, 2, name.length() + 3);
            c.faulty(0, six + "wind 5;" + name + " 0 0;", 2, six.length() + 5);
            c.faulty(0, six + name + " 0 0;wind 5;", 3, six.length());
        }
        c.faulty(0, six, 0, NONE);
        c.faulty(0, people + six, 0, NONE);
        c.faulty(0, six + people + "wall 2 2;size 8 8;wind 0;value tell 1;", 0, NONE);
    }

    private static void manyPeople(Check c) {
        String six = of(KINDS, 6, " 0 0;");
        String players = of(INSTRUMENTS, 6, " 1 1;");
        for (String name : KINDS) {
            c.faulty(0, six.substring(0, six.lastIndexOf(';', six.length() - 2) + 1) + name + " 0 0;", 0, NONE);
            c.faulty(0, six + name + " 0 0;", 3, six.length());
            c.faulty(0, six + players + name + " 0 0;", 3, six.length() + players.length());
            c.faulty(0, players + six + "\n" + name + " 0 0;", 3, six.length() + players.length() + 1);
            c.faulty(0, six + name + " 0 8;", 3, six.length());
            c.faulty(0, name + " 9 0;" + six, 2, name.length() + 1);
            c.faulty(0, six + "value tell 10;" + name + " 0 0;", 2, six.length() + 11);
        }
        // The first by place, be it a PLAYER or one of the PEOPLE.
        c.faulty(0, six + players + "horn 0 0;deaf 0 0;", 3, six.length() + players.length());
        c.faulty(0, six + "deaf 0 0;" + players + "horn 0 0;", 3, six.length());
    }

    private static void manyRows(Check c) {
        String[] deeds = {"stand 0;", "free 0;", "tell 0;", "march 0 0;", "walk 0 0;", "go 0 0;", "rest;"};
        for (String deed : deeds) {
            c.faulty(1, deed.repeat(40), 0, NONE);
            c.faulty(1, deed.repeat(41), 3, 40 * deed.length());
            c.faulty(1, "rest;".repeat(39) + deed, 0, NONE);
            c.faulty(1, "rest;".repeat(40) + deed, 3, 200);
            c.faulty(1, "rest;".repeat(40) + " " + deed + deed, 3, 201);
            if (deed.length() > 5) {
                c.faulty(1, "rest;".repeat(40) + deed.replace('0', '6'), 3, 200);
                c.faulty(1, deed.replace('0', '6') + "rest;".repeat(40), 2, deed.indexOf('0'));
            }
        }
        for (String saying : new String[] {"says 0 1;", "denies 1 0;"}) {
            c.faulty(2, saying.repeat(12), 0, NONE);
            c.faulty(2, saying.repeat(13), 3, 12 * saying.length());
            c.faulty(2, "says 0 0;".repeat(11) + saying, 0, NONE);
            c.faulty(2, "says 0 0;".repeat(12) + "voices 2;" + saying, 3, 117);
            c.faulty(2, "says 0 0;".repeat(12) + saying.replace('0', '8'), 3, 108);
            c.faulty(2, saying.replace('0', '8') + "says 0 0;".repeat(12), 2, saying.indexOf('0'));
            c.faulty(2, "says 0 0;".repeat(12) + "voices 9;" + saying, 2, 115);
        }
        for (String fact : new String[] {"loud 0 0;", "quiet 0 0;"}) {
            c.faulty(3, fact.repeat(10), 0, NONE);
            c.faulty(3, fact.repeat(11), 3, 10 * fact.length());
            c.faulty(3, "loud 0 0;".repeat(9) + fact, 0, NONE);
            c.faulty(3, "loud 0 0;".repeat(10) + fact.replace('0', '8'), 3, 90);
            c.faulty(3, fact.replace('0', '8') + "loud 0 0;".repeat(10), 2, fact.indexOf('0'));
        }
        CityChords x = new CityChords();
        Check.tell(x, 1, "rest;".repeat(40));
        Check.tell(x, 2, "says 0 1;".repeat(12));
        Check.tell(x, 3, "loud 0 0;".repeat(10));
        c.due("T1 forty deeds", x.deed(0, NONE, 0), 40);
        c.due("T1 twelve sayings", x.trial(0, 2), 12);
        c.due("T1 ten facts", x.fact(0, NONE, 0), 10);
    }

    /** WALLS have no bound: all 64 CELLS, and one told of again and again. */
    private static void manyWalls(Check c) {
        StringBuilder all = new StringBuilder("size 8 8;");
        for (int cell = 0; cell < 64; cell++) {
            all.append("wall ").append(cell % 8).append(' ').append(cell / 8).append(';');
        }
        c.faulty(0, all.toString(), 0, NONE);
        CityChords x = Check.cityOf(all.toString());
        for (int cell = 0; cell < 64; cell++) {
            c.due("T1 wall " + cell, x.city(0, 100 + cell), 1);
        }
        c.due("T1 no cell 64", x.city(0, 164), NONE);
        c.faulty(0, "wall 0 0;".repeat(66), 0, NONE);
    }

    /** FAULT 4 at the end's place: the last column and row are there, the next ones are not, in all sizes. */
    private static void notThere(Check c) {
        String[] names = {"wall", "fiddle", "flute", "drum", "horn", "citizen", "thief", "child", "deaf"};
        for (int wide = 2; wide <= 8; wide++) {
            for (int high = 2; high <= 8; high++) {
                String name = names[(wide * 7 + high) % 9];
                String size = "size " + wide + " " + high + ";";
                String last = name + " " + (wide - 1) + " " + (high - 1) + ";";
                c.faulty(0, size + last, 0, NONE);
                c.faulty(0, last + size, 0, NONE);
                if (wide < 8) {
                    String beside = name + " " + wide + " 0;";
                    c.faulty(0, size + beside, 4, size.length() + beside.length());
                    c.faulty(0, beside + size + "\n", 4, size.length() + beside.length() + 1);
                }
                if (high < 8) {
                    String below = name + " 0 " + high + ";";
                    c.faulty(0, size + below, 4, size.length() + below.length());
                }
            }
        }
        for (String name : names) {
            String at = name + " 5 5;";
            c.faulty(0, at, 0, NONE);
            c.faulty(0, name + " 6 5;", 4, at.length());
            c.faulty(0, name + " 5 6;", 4, at.length());
            c.faulty(0, name + " 6 5;" + name + " 0 0;", 4, 2 * at.length());
            c.faulty(0, name + " 0 0;" + name + " 5 6;", 4, 2 * at.length());
            c.faulty(0, at + "size 6 5;", 4, at.length() + 9);
            c.faulty(0, at + "size 5 6;", 4, at.length() + 9);
            c.faulty(0, at + "size 5 5;size 6 6;", 0, NONE);
            c.faulty(0, name + " 7 7;size 8 8;", 0, NONE);
        }
    }

    private static void noWitness(Check c) {
        for (int voices = 1; voices <= 8; voices++) {
            String told = "voices " + voices + ";";
            for (String word : new String[] {"says ", "denies "}) {
                int last = voices - 1;
                c.faulty(2, told + word + last + " " + last + ";", 0, NONE);
                c.faulty(2, word + last + " 0;" + told + word + "0 " + last + ";", 0, NONE);
                for (int beyond = voices; beyond < 8; beyond++) {
                    c.faulty(2, told + word + beyond + " 0;", 4, 13 + word.length());
                    c.faulty(2, told + word + "0 " + beyond + ";", 4, 13 + word.length());
                    c.faulty(2, word + "0 " + beyond + ";" + told + " ", 4, 14 + word.length());
                    c.faulty(2, word + "0 0;" + word + beyond + " 0;" + word + "0 0;" + told, 4, 21 + 3 * word.length());
                }
            }
            // How many THIEVES there are is no matter of FAULTS.
            c.faulty(2, told + "thieves 8;", 0, NONE);
        }
        c.faulty(2, "says 3 3;", 0, NONE);
        c.faulty(2, "says 4 3;", 4, 9);
        c.faulty(2, "says 3 4;", 4, 9);
    }

    private static void inAWall(Check c) {
        for (String[] names : new String[][] {INSTRUMENTS, KINDS}) {
            for (String name : names) {
                String at = name + " 1 1;";
                c.faulty(0, "wall 1 1;" + at, 5, 9 + at.length());
                c.faulty(0, at + "wall 1 1;", 5, 9 + at.length());
                c.faulty(0, at + "wall 1 1; \n", 5, 11 + at.length());
                c.faulty(0, name + " 0 0;wall 0 1;wall 1 0;" + at, 0, NONE);
                c.faulty(0, name + " 0 0;wall 1 1;" + at, 5, 9 + 2 * at.length());
                c.faulty(0, at + "wall 1 1;" + name + " 0 0;", 5, 9 + 2 * at.length());
                // Of one place the least: 4 before 5.
                c.faulty(0, at + "wall 1 1;wall 6 0;", 4, 18 + at.length());
                c.faulty(0, at + "wall 1 1;" + name + " 0 6;", 4, 9 + 2 * at.length());
                c.faulty(0, name + " 7 7;wall 7 7;", 4, 9 + at.length());
                c.faulty(0, name + " 7 7;wall 7 7;size 8 8;", 5, 18 + at.length());
            }
        }
        // Players and people may share a CELL.
        c.faulty(0, of(INSTRUMENTS, 6, " 1 1;") + of(KINDS, 6, " 1 1;"), 0, NONE);
    }

    /** 1 before all; then 2 and 3, the first by place; then 4, then 5. */
    private static void order(Check c) {
        String seven = "drum 0 0;".repeat(7);
        String outside = "wall 6 0;";
        String shut = "wall 0 0;horn 0 0;";
        String bad = "wind 5;";
        c.faulty(0, bad + seven + outside + shut + "?", 1, 97);
        c.faulty(0, seven + bad + outside + "wind", 1, 83);
        c.faulty(0, outside + shut + "wind 1", 1, 33);
        c.faulty(0, outside + shut + bad, 2, 32);
        c.faulty(0, outside + shut + bad + seven, 2, 32);
        c.faulty(0, outside + shut + seven + bad, 3, 27 + 45);
        c.faulty(0, seven + bad, 3, 54);
        c.faulty(0, bad + seven, 2, 5);
        c.faulty(0, bad + bad, 2, 5);
        c.faulty(0, "size 1 9;", 2, 5);
        c.faulty(0, "size 8 9;", 2, 7);
        c.faulty(0, outside + shut, 4, 27);
        c.faulty(0, shut + outside, 4, 27);
        c.faulty(0, shut, 5, 18);
        // A bad NUMBER ahead of a byte that no text goes on with, and behind it.
        c.faulty(0, "wind 9 #", 1, 7);
        c.faulty(0, "# wind 9;", 1, 0);
        c.faulty(0, "wind 9", 1, 6);
        c.faulty(0, "wind 9 9;", 1, 7);
        c.faulty(1, "go 6 4;go 6 4", 1, 13);
        c.faulty(1, "go 6 4;go 6 4;", 2, 3);
        c.faulty(1, "go 5 4;", 2, 5);
        c.faulty(2, "says 7 7;voices 0;", 2, 16);
        c.faulty(2, "says 7 7;says 8 8;", 2, 14);
        c.faulty(2, "says 7 7;".repeat(13), 3, 108);
        c.faulty(2, "says 7 7;".repeat(12), 4, 108);
        c.faulty(2, "says 7 7;".repeat(12) + "voices", 1, 114);
        c.faulty(3, "loud 8 8;loud 8", 1, 15);
        c.faulty(3, "loud 8 8;", 2, 5);
    }

    /** Later ones strike: the latest SIZE, WIND, VALUE, WITNESSES, THIEVES alone is told of. */
    private static void strikes(Check c) {
        CityChords x = Check.cityOf("size 8 2;size 2 8;size 3 5;wind 0;wind 3;wind 1;value stand 9;value free 0;"
            + "value stand 0;value free 9;value march 4;value march 9;");
        int[] due = {3, 5, 1, 0, 0};
        for (int what = 0; what < 5; what++) {
            c.due("T1 later ones strike: city " + what, x.city(0, what), due[what]);
        }
        int[] value = {0, 9, 3, 9};
        for (int command = 0; command < 4; command++) {
            c.due("T1 later ones strike: value " + command, x.city(0, 10 + command), value[command]);
        }
        c.due("T1 wind 4 strikes", Check.cityOf("wind 0;wind 4;").city(0, 2), 4);
        x = Check.cityOf("fiddle 0 0;fiddle 0 0;horn 0 0;deaf 1 0;deaf 1 0;wall 2 0;wall 3 0;wall 2 0;");
        c.due("T1 further players", x.city(0, 3), 3);
        c.due("T1 further people", x.city(0, 4), 2);
        c.due("T1 further walls", x.city(0, 102) + x.city(0, 103), 2);
        Check.tell(x, 2, "voices 1;thieves 8;voices 8;thieves 0;voices 2;thieves 3;says 0 1;says 0 1;denies 0 1;");
        c.due("T1 later ones strike: witnesses", x.trial(0, 0), 2);
        c.due("T1 later ones strike: thieves", x.trial(0, 1), 3);
        c.due("T1 further sayings", x.trial(0, 2), 3);
        Check.tell(x, 1, "rest;rest;stand 0;stand 0;");
        c.due("T1 further deeds", x.deed(0, NONE, 0), 4);
        Check.tell(x, 3, "loud 0 0;loud 0 0;quiet 0 0;");
        c.due("T1 further facts", x.fact(0, NONE, 0), 3);
    }
}
