/** The bounds of the tape and of taking it as a text: promises 1 to 5 and 29, each sentence on its own. */
public final class TapeEdgeTest {
    private static final int NONE = CityChords.NONE;
    private static final int MIN = Integer.MIN_VALUE;
    private static final int MAX = Integer.MAX_VALUE;
    private static final int BLANKS = 0x20202020;
    private static final String[] LINES = {"size 2 2;", "rest;", "voices 1;", "loud 0 0;"};

    public static void main(String[] args) {
        Check c = new Check();
        newObject(c);
        feedAtEachLength(c);
        refusedFeed(c);
        orderOfBytes(c);
        feedBehindTheEnd(c);
        endAtEachLength(c);
        endCuts(c);
        numbersOfTexts(c);
        noSuchPlace(c);
        noSuchSort(c);
        emptyTapes(c);
        fullTapes(c);
        tapeIsTaken(c);
        faultInPlace(c);
        latestFault(c);
        counts(c);
        lastCall(c);
        c.close();
    }

    private static int blanks(CityChords x) {
        return x.feed(BLANKS, BLANKS, BLANKS, BLANKS, BLANKS);
    }

    /** An object whose tape has so many blanks. */
    private static CityChords tapeOf(int length) {
        CityChords x = new CityChords();
        for (int k = 0; 20 * k < length; k++) {
            blanks(x);
        }
        x.end(length);
        return x;
    }

    private static void newObject(Check c) {
        CityChords x = new CityChords();
        for (int sort = 0; sort < 4; sort++) {
            c.due("P1 new: count " + sort, x.count(sort), 0);
            c.due("P1 new: none in place 0 of sort " + sort, x.text(sort, 0), -2);
        }
        for (int k = 0; k < 3; k++) {
            c.due("P1 new: no image " + k, x.again(k), false);
        }
        x = new CityChords();
        c.due("P5 new: no fault", x.fault(0), 0);
        c.due("P5 new: no place", x.fault(1), NONE);
        c.due("P3 new: the tape is empty", x.end(1), NONE);
        c.due("P2 new: the first feed", blanks(x), 20);
        none(c, new CityChords());
    }

    private static void none(Check c, CityChords x) {
        int[] due = {NONE, -2, NONE, -2, NONE, NONE, NONE, NONE, NONE, NONE, NONE, NONE, -2, -2, -2, -2, -2, NONE, NONE, NONE,
            NONE, NONE, NONE};
        int[] got = {x.city(0, 0), x.deed(0, NONE, 0), x.stop(0, 0), x.state(0, 0, 0, 0), x.hears(0, 0, 0), x.enough(0),
            x.fresh(0, 0, 1, 0), x.gather(0, 0, 0, 1, false), x.chase(0, 0, 0), x.programme(0, 0, NONE), x.part(0, 0, false),
            x.line(0), x.trial(0, 0), x.thieves(0, 0), x.fact(0, NONE, 0), x.seen(0, 0, 0), x.drawn(0, 0, 0, 0),
            x.steps(0, 0, 0), x.blocks(0, false), x.cordon(0, 0, 3), x.square(0, false), x.silent(0), x.round(0, 0)};
        for (int k = 0; k < due.length; k++) {
            c.due("P1 new: call " + k + " of none", got[k], due[k]);
        }
    }

    private static void feedAtEachLength(Check c) {
        for (int length = 0; length <= 600; length++) {
            c.due("P2 feed at " + length, blanks(tapeOf(length)), length <= 580 ? length + 20 : NONE);
        }
    }

    /** Nothing comes, not even the bytes for which there is room. */
    private static void refusedFeed(Check c) {
        for (int length : new int[] {581, 582, 590, 599, 600}) {
            CityChords x = tapeOf(length);
            c.due("P2 refused at " + length, x.feed(0, 0, 0, 0, 0), NONE);
            c.due("P2 no byte more at " + length, x.end(length + 1), NONE);
            c.due("P2 as many bytes at " + length, x.end(length), length);
            c.due("P2 the bytes as they were at " + length, x.text(1, NONE), 0);
        }
        CityChords x = tapeOf(590);
        x.feed(0, 0, 0, 0, 0);
        c.due("P2 cut to 580 behind a refused one", x.end(580), 580);
        c.due("P2 fed then", blanks(x), 600);
        c.due("P2 nothing of the refused one is left", x.text(1, NONE), 0);
    }

    /** Of each number the highest byte first: one byte alone that no text goes on with, at each place. */
    private static void orderOfBytes(Check c) {
        for (int at = 0; at < 20; at++) {
            for (int sign : new int[] {0, 33, 127, 128, 255}) {
                int[] part = {BLANKS, BLANKS, BLANKS, BLANKS, BLANKS};
                int shift = 24 - at % 4 * 8;
                part[at / 4] = part[at / 4] & ~(255 << shift) | sign << shift;
                CityChords x = new CityChords();
                x.feed(part[0], part[1], part[2], part[3], part[4]);
                c.due("P2 byte " + sign + " at " + at, x.text(3, NONE), NONE);
                c.due("P2 its place " + at, x.fault(1), at);
            }
        }
    }

    private static void feedBehindTheEnd(Check c) {
        for (int length : new int[] {0, 1, 19, 20, 21, 579, 580}) {
            CityChords x = tapeOf(length);
            c.due("P2 behind " + length, x.feed(0x78202020, BLANKS, BLANKS, BLANKS, BLANKS), length + 20);
            c.due("P2 text behind " + length, x.text(1, NONE), NONE);
            c.due("P2 its first byte behind " + length, x.fault(1), length);
        }
    }

    private static void endAtEachLength(Check c) {
        for (int length : new int[] {0, 1, 20, 21, 599, 600}) {
            CityChords x = tapeOf(length);
            for (int n : new int[] {length + 1, -1, -2, MIN, MAX, 601, length + 600}) {
                c.due("P3 end " + n + " of " + length, x.end(n), NONE);
            }
            c.due("P3 refused: as many as before, " + length, x.end(length), length);
            if (length > 0) {
                c.due("P3 one less than " + length, x.end(length - 1), length - 1);
                c.due("P3 not back to " + length, x.end(length), NONE);
            }
            c.due("P3 none of " + length, x.end(0), 0);
            c.due("P3 none again", x.end(0), 0);
            c.due("P3 not one", x.end(1), NONE);
        }
    }

    /** The first n bytes alone are left: those behind them are no part of the text, nor of its end. */
    private static void endCuts(Check c) {
        for (int n = 0; n <= 10; n++) {
            CityChords x = new CityChords();
            Check.put(x, "rest;rest;");
            x.end(n);
            boolean whole = n % 5 == 0;
            c.due("P3 text of " + n, x.text(1, NONE), whole ? 0 : NONE);
            c.due("P3 deeds of " + n, x.deed(0, NONE, 0), whole ? n / 5 : -2);
            c.due("P3 fault of " + n, x.fault(0), whole ? 0 : 1);
            c.due("P3 place of " + n, x.fault(1), whole ? NONE : n % 5 == 4 ? n : n / 5 * 5);
        }
    }

    private static void numbersOfTexts(Check c) {
        for (int sort = 0; sort < 4; sort++) {
            CityChords x = new CityChords();
            c.due("P4 no first to strike, sort " + sort, Check.tell(x, sort, LINES[sort], 0), -2);
            c.due("P4 none counted, sort " + sort, x.count(sort), 0);
            c.due("P4 the first, sort " + sort, Check.tell(x, sort, LINES[sort]), 0);
            c.due("P4 no second to strike, sort " + sort, Check.tell(x, sort, LINES[sort], 1), -2);
            c.due("P4 one counted, sort " + sort, x.count(sort), 1);
            c.due("P4 the first in its place, sort " + sort, Check.tell(x, sort, LINES[sort], 0), 0);
            c.due("P4 one counted still, sort " + sort, x.count(sort), 1);
            c.due("P4 the second, sort " + sort, Check.tell(x, sort, LINES[sort]), 1);
            c.due("P4 no third, sort " + sort, Check.tell(x, sort, LINES[sort]), -2);
            c.due("P4 no third again, sort " + sort, Check.tell(x, sort, LINES[sort]), -2);
            c.due("P4 no third to strike, sort " + sort, Check.tell(x, sort, LINES[sort], 2), -2);
            c.due("P4 the second in its place, sort " + sort, Check.tell(x, sort, LINES[sort], 1), 1);
            c.due("P4 two counted, sort " + sort, x.count(sort), 2);
            for (int other = 0; other < 4; other++) {
                c.due("P4 sort " + sort + " is none of " + other, x.count(other), other == sort ? 2 : 0);
            }
        }
    }

    /** -2: the tape is empty then, no text is read, FAULT 0; what stands, stands. */
    private static void noSuchPlace(Check c) {
        for (int sort = 0; sort < 4; sort++) {
            for (int at : new int[] {1, 2, 3, -2, -3, MIN, MAX, MIN + 1}) {
                refused(c, sort, at, 1);
            }
            for (int at : new int[] {NONE, 2, 3, -2, MIN, MAX}) {
                refused(c, sort, at, 2);
            }
        }
    }

    private static void refused(Check c, int sort, int at, int many) {
        for (String text : new String[] {LINES[sort], "x", ""}) {
            CityChords x = new CityChords();
            for (int k = 0; k < many; k++) {
                Check.tell(x, sort, LINES[sort]);
            }
            Check.tell(x, sort, "?", 0);
            String name = "P4 '" + text + "' of sort " + sort + " at " + at + " of " + many + ": ";
            c.due(name + "a fault before", x.fault(0), 1);
            c.due(name + "refused", Check.tell(x, sort, text, at), -2);
            c.due(name + "fault 0", x.fault(0), 0);
            c.due(name + "no place", x.fault(1), NONE);
            c.due(name + "the tape is empty", x.end(1), NONE);
            c.due(name + "as many as before", x.count(sort), many);
        }
    }

    private static void noSuchSort(Check c) {
        for (int sort : new int[] {-1, -2, 4, 5, MIN, MAX}) {
            for (int at : new int[] {NONE, 0, 1, 2, -2, MAX}) {
                CityChords x = new CityChords();
                for (int k = 0; k < 4; k++) {
                    Check.tell(x, k, LINES[k]);
                }
                Check.tell(x, 0, "?", 0);
                String name = "P4 sort " + sort + " at " + at + ": ";
                c.due(name + "refused", Check.tell(x, sort, "x", at), -2);
                c.due(name + "fault 0", x.fault(0), 0);
                c.due(name + "no place", x.fault(1), NONE);
                c.due(name + "the tape is empty", x.end(1), NONE);
                for (int k = 0; k < 4; k++) {
                    c.due(name + "count " + k, x.count(k), 1);
                }
            }
        }
    }

    /** An empty tape is a text of each sort: all is as at first. */
    private static void emptyTapes(Check c) {
        for (String text : new String[] {"", " ", "\n", " \n \n  "}) {
            CityChords x = new CityChords();
            for (int sort = 0; sort < 4; sort++) {
                c.due("P4 empty text of sort " + sort, Check.tell(x, sort, text), 0);
                c.due("P4 no fault in it", x.fault(0), 0);
                c.due("P4 no place in it", x.fault(1), NONE);
            }
            int[] city = {6, 6, 4, 0, 0};
            for (int what = 0; what < city.length; what++) {
                c.due("T1 at first: city " + what, x.city(0, what), city[what]);
            }
            for (int command = 0; command < 4; command++) {
                c.due("T1 at first: value " + command, x.city(0, 10 + command), 3);
            }
            for (int cell = 0; cell < 36; cell++) {
                c.due("T1 at first: no wall " + cell, x.city(0, 100 + cell), 0);
            }
            c.due("T1 at first: witnesses", x.trial(0, 0), 4);
            c.due("T1 at first: thieves", x.trial(0, 1), NONE);
            c.due("T1 at first: sayings", x.trial(0, 2), 0);
            c.due("T1 at first: deeds", x.deed(0, NONE, 0), 0);
            c.due("T1 at first: facts", x.fact(0, NONE, 0), 0);
        }
    }

    /** Texts of 599 and 600 bytes, the last line at their end. */
    private static void fullTapes(Check c) {
        for (int sort = 0; sort < 4; sort++) {
            for (int length : new int[] {599, 600}) {
                String text = " ".repeat(length - LINES[sort].length()) + LINES[sort];
                CityChords x = new CityChords();
                c.due("T1 a text of " + length + " of sort " + sort, Check.tell(x, sort, text), 0);
                c.due("T1 its last line", sort == 0 ? x.city(0, 0) : sort == 1 ? x.deed(0, NONE, 0)
                    : sort == 2 ? x.trial(0, 0) : x.fact(0, NONE, 0), sort == 0 ? 2 : 1);
                c.faulty(sort, text.substring(0, length - 1), 1, length - 1);
                c.faulty(sort, " " .repeat(length - 1) + ";", 1, length - 1);
                c.faulty(sort, " ".repeat(length), 0, NONE);
            }
        }
        c.faulty(0, "size 2 2;" + " ".repeat(582) + "wall 2 0;", 4, 600);
        c.faulty(0, "size 2 2;" + "wall 2 0;" + " ".repeat(582), 4, 600);
        c.faulty(0, "wall 0 0;" + " ".repeat(581) + "drum 0 0; ", 5, 600);
        c.faulty(0, "a".repeat(600), 1, 0);
        c.faulty(0, "1".repeat(600), 1, 0);
        c.faulty(0, " ".repeat(590) + "wind 1" + "    ", 1, 600);
        c.faulty(0, " ".repeat(594) + "wind 1", 1, 600);
        c.faulty(0, " ".repeat(593) + "wind 01", 1, 600);
        c.faulty(0, " ".repeat(592) + "wind 001", 1, 597);
    }

    private static void tapeIsTaken(Check c) {
        for (int sort = 0; sort < 4; sort++) {
            CityChords x = new CityChords();
            Check.tell(x, sort, LINES[sort]);
            c.due("P4 the tape is empty behind a text of sort " + sort, x.end(1), NONE);
            c.due("P4 feed begins anew", blanks(x), 20);
            Check.tell(x, sort, LINES[sort] + "?", 0);
            c.due("P4 the tape is empty behind a fault of sort " + sort, x.end(1), NONE);
            c.due("P4 feed begins anew behind it", blanks(x), 20);
        }
    }

    /** NONE: a FAULT; no further one comes, none is struck. */
    private static void faultInPlace(Check c) {
        CityChords x = new CityChords();
        for (int sort = 0; sort < 4; sort++) {
            c.due("P4 a fault, none counted " + sort, Check.tell(x, sort, LINES[sort] + "?"), NONE);
            c.due("P4 none " + sort, x.count(sort), 0);
        }
        Check.tell(x, 0, "size 3 4;wall 1 1;wind 2;value tell 8;flute 2 2;thief 0 3;");
        Check.tell(x, 1, "go 5 1;");
        Check.tell(x, 2, "voices 2;thieves 1;denies 1 0;");
        Check.tell(x, 3, "quiet 5 6;");
        String[] faulty = {"size 8 8;wall 0 0;wind 1;value tell 1;horn 2 1;deaf 1 0;size 1 1;", "rest;rest;march 2 4;",
            "voices 5;thieves 2;says 0 1;says 5 1;", "loud 0 0;quiet 1 1;loud 8 0;"};
        for (int sort = 0; sort < 4; sort++) {
            c.due("P4 a fault in place 0, sort " + sort, Check.tell(x, sort, faulty[sort], 0), NONE);
            c.due("P4 a fault in a further one, sort " + sort, Check.tell(x, sort, faulty[sort]), NONE);
            c.due("P4 as many as before, sort " + sort, x.count(sort), 1);
        }
        int[][] city = {{0, 3}, {1, 4}, {2, 2}, {3, 1}, {4, 1}, {12, 8}, {20, 1}, {30, 8}, {40, 1}, {50, 9}, {100, 0}, {104, 1}};
        for (int[] pair : city) {
            c.due("P4 the city as it was, " + pair[0], x.city(0, pair[0]), pair[1]);
        }
        c.due("P4 the night as it was", x.deed(0, NONE, 0), 1);
        c.due("P4 its deed", x.deed(0, 0, 0), 5);
        int[][] trial = {{0, 2}, {1, 1}, {2, 1}, {10, 0}, {30, 1}, {50, 0}};
        for (int[] pair : trial) {
            c.due("P4 the trial as it was, " + pair[0], x.trial(0, pair[0]), pair[1]);
        }
        c.due("P4 the sight as it was", x.fact(0, NONE, 0), 1);
        c.due("P4 its fact", x.fact(0, 0, 2), 6);
    }

    private static void latestFault(Check c) {
        CityChords x = new CityChords();
        String[] texts = {"?", "wind 9;", "drum 0 0;".repeat(7), "wall 6 0;", "wall 0 0;drum 0 0;", ""};
        int[] places = {0, 5, 54, 9, 18, NONE};
        for (int k = 0; k < 6; k++) {
            Check.tell(x, 0, texts[k]);
            c.due("P5 fault " + k, x.fault(0), (k + 1) % 6);
            c.due("P5 place " + k, x.fault(1), places[k]);
            for (int what : new int[] {-1, 2, 3, -2, MIN, MAX}) {
                c.due("P5 another what " + what + " at fault " + k, x.fault(what), NONE);
            }
            x.feed(0, 0, 0, 0, 0);
            x.end(7);
            x.end(-1);
            c.due("P5 feed and end are no text", x.fault(0), (k + 1) % 6);
            c.due("P5 its place stays", x.fault(1), places[k]);
        }
    }

    private static void counts(Check c) {
        CityChords x = new CityChords();
        for (int sort : new int[] {-1, 4, -2, 5, MIN, MAX}) {
            c.due("P29 sort " + sort, x.count(sort), -2);
        }
        for (int many = 0; many <= 2; many++) {
            for (int sort = 0; sort < 4; sort++) {
                c.due("P29 " + many + " of sort " + sort, x.count(sort), many);
            }
            for (int sort = 0; sort < 4; sort++) {
                Check.tell(x, sort, LINES[sort]);
            }
        }
        for (int sort = 0; sort < 4; sort++) {
            c.due("P29 no third of sort " + sort, x.count(sort), 2);
        }
    }

    /** An object is used for 512 calls: the last ones answer as the first ones do. */
    private static void lastCall(Check c) {
        CityChords x = new CityChords();
        for (int k = 0; k < 168; k++) {
            c.due("call " + (3 * k + 1), blanks(x), 20);
            c.due("call " + (3 * k + 2), x.end(0), 0);
            c.due("call " + (3 * k + 3), x.image(k % 3), true);
        }
        c.due("call 505", x.feed(0x72657374, 0x3b202020, BLANKS, BLANKS, BLANKS), 20);
        c.due("call 506", x.image(0), true);
        c.due("call 507", x.text(1, NONE), 0);
        c.due("call 508", x.deed(0, NONE, 0), 1);
        c.due("call 509", x.again(0), true);
        c.due("call 510", x.count(1), 0);
        c.due("call 511", x.end(20), 20);
        c.due("call 512", x.text(1, NONE), 0);
    }
}
