/** The boundaries that the document names for LINES, WORDS, counts and THE TRACE (promises 21 to 29). */
public final class LinesEdgeTest {
    private static final int BAD = HandsPicture.BAD, FULL = HandsPicture.FULL, NONE = HandsPicture.NONE;
    private static final Checks checks = new Checks("LinesEdgeTest");

    public static void main(String[] args) {
        linesAtMost();
        lineEnds();
        kinds();
        inkOfAllDifferences();
        inkAsOfTheLastStamp();
        traceOfBodies();
        traceOfRefused();
        traceToTheLastCall();
        dotsOfOnePlace();
        dotsOfEachLength();
        dotsHalvesUp();
        dotsAtTheEdges();
        dotsOfAll();
        dotsRefused();
        meetEdges();
        meetLines();
        wordsAtMost();
        wordWidths();
        boxes();
        blankBetween();
        widerThanTheBox();
        lastRowIsFree();
        leastTogether();
        mostInTheFirstRow();
        asManyRowsAsWords();
        noWords();
        rowNumbers();
        countsAtMost();
        countWhats();
        checks.end();
    }

    /** A LINE from POINT 0 to POINT 1, that stand there for HAND 0. */
    private static HandsPicture withLine(int x, int y, int toX, int toY) {
        HandsPicture it = new HandsPicture();
        it.line(0, 1);
        it.move(0, 0, x, y);
        it.move(0, 1, toX, toY);
        return it;
    }

    private static void linesAtMost() {
        checks.sentence("LINES (8 at most)");
        HandsPicture it = new HandsPicture();
        for (int i = 0; i < 8; i++) checks.due("line", it.line(0, 1), i);
        checks.due("a ninth", it.line(0, 2), FULL);
        checks.due("BAD ahead of FULL", it.line(2, 2), BAD);
        checks.due("BAD ahead of FULL", it.line(0, 6), BAD);
        checks.due("count", it.count(2), 8);
        checks.due("the last", it.ink(0, 7, 0), 1);
        checks.due("no ninth", it.ink(0, 8, 0), BAD);
        checks.due("no ninth", it.dots(0, 8), BAD);
        checks.due("all meet", it.meet(0, 5, 5), 8);
    }

    private static void lineEnds() {
        checks.sentence("A LINE: BAD: from a POINT to itself, too");
        for (int from = -1; from <= 6; from++) {
            for (int to = -1; to <= 6; to++) {
                boolean there = from >= 0 && from <= 5 && to >= 0 && to <= 5 && from != to;
                HandsPicture it = new HandsPicture();
                checks.due("line " + from + " " + to, it.line(from, to), there ? 0 : BAD);
                checks.due("count", it.count(2), there ? 1 : 0);
                if (there) {
                    it.move(0, from, 0, 0);
                    checks.due("from it", it.meet(0, 0, 0), 1);
                    it.move(0, to, 19, 19);
                    checks.due("to it", it.meet(0, 19, 19), 1);
                }
            }
        }
    }

    private static void kinds() {
        checks.sentence("KINDS 0 .. 4");
        HandsPicture it = withLine(1, 1, 4, 5);
        int[] due = {1, 5, 8, 3, 16};
        for (int kind = 0; kind <= 4; kind++) checks.due("kind " + kind, it.ink(kind, 0, 0), due[kind]);
        for (int kind : new int[] {-1, 5, Integer.MIN_VALUE, Integer.MAX_VALUE}) {
            checks.due("kind " + kind, it.ink(kind, 0, 0), BAD);
        }
        checks.due("line -1", it.ink(0, -1, 0), BAD);
        checks.due("line 1", it.ink(0, 1, 0), BAD);
        checks.due("hand -1", it.ink(0, 0, -1), BAD);
        checks.due("hand 3", it.ink(0, 0, 3), BAD);
    }

    private static void inkOfAllDifferences() {
        checks.sentence("PART 1; LINE up and the greater; ARC up and the lesser; DASH half of up, rounded up; USE twice up");
        for (int dx = -19; dx <= 19; dx++) {
            for (int dy = -19; dy <= 19; dy++) {
                HandsPicture it = withLine(Math.max(0, -dx), Math.max(0, -dy), Math.max(0, dx), Math.max(0, dy));
                int line = 1 + Math.max(Math.abs(dx), Math.abs(dy));
                int arc = 1 + Math.abs(dx) + Math.abs(dy);
                int dash = line % 2 == 0 ? line / 2 : (line + 1) / 2;
                int[] due = {1, line, arc, dash, 2 * arc};
                for (int kind = 0; kind < 5; kind++) {
                    checks.due(dx + " " + dy + " kind " + kind, it.ink(kind, 0, 0), due[kind]);
                }
            }
        }
    }

    private static void inkAsOfTheLastStamp() {
        checks.sentence("INK of a LINE for a HAND, by where POINTS STAND");
        HandsPicture it = withLine(0, 0, 19, 19);
        checks.due("the longest", it.ink(4, 0, 0), 78);
        checks.due("for another HAND", it.ink(4, 0, 1), 2);
        it.back(0, 1);
        checks.due("taken BACK", it.ink(4, 0, 0), 22);
        it.join(1, 0);
        checks.due("JOINED", it.ink(4, 0, 1), 22);
    }

    private static void traceOfBodies() {
        checks.sentence("numbers in brackets come to THE TRACE as often as ink() asks that body");
        int[] due = {1, 11, 111, 1011, 10111};
        for (int kind = 0; kind < 5; kind++) {
            HandsPicture it = withLine(0, 0, 3, 4);
            checks.due("at first", it.trace(), 0);
            it.ink(kind, 0, 0);
            checks.due("kind " + kind, it.trace(), due[kind]);
            it.ink(kind, 0, 2);
            checks.due("kind " + kind + " twice", it.trace(), 2 * due[kind]);
            checks.due("asked again", it.trace(), 2 * due[kind]);
        }
    }

    private static void traceOfRefused() {
        checks.sentence("THE TRACE of a refused ink(), and of other calls");
        HandsPicture it = withLine(0, 0, 3, 4);
        it.ink(4, 0, 0);
        for (int n : new int[] {-1, 5}) it.ink(n, 0, 0);
        for (int n : new int[] {-1, 1}) it.ink(0, n, 0);
        for (int n : new int[] {-1, 3}) it.ink(0, 0, n);
        it.dots(0, 0);
        it.dots(0, -1);
        it.meet(0, 0, 0);
        it.line(1, 2);
        it.clear();
        it.laws();
        checks.due("trace", it.trace(), 10111);
    }

    private static void traceToTheLastCall() {
        checks.sentence("at most 512 calls");
        HandsPicture it = new HandsPicture();
        it.line(0, 1);
        for (int i = 0; i < 510; i++) it.ink(4, 0, 0);
        checks.due("the 512th", it.trace(), 510L * 10111L);
    }

    private static void dotsOfOnePlace() {
        checks.sentence("n 0: just the POINT");
        HandsPicture it = withLine(19, 0, 19, 0);
        checks.due("one", it.dots(0, 0), 1);
        checks.due("of all", it.dots(0, -1), 1);
        checks.due("it", it.meet(0, 19, 0), 1);
        checks.due("beside it", it.meet(0, 18, 0) + it.meet(0, 19, 1), 0);
        checks.due("for another HAND", it.meet(1, 5, 5), 1);
        checks.due("its INK", it.ink(1, 0, 0), 1);
    }

    private static void dotsOfEachLength() {
        checks.sentence("for t of 0 .. n");
        for (int n = 0; n <= 19; n++) {
            for (int m = 0; m <= n; m++) {
                checks.due(n + " " + m, withLine(0, 0, n, m).dots(0, 0), n + 1);
                checks.due(m + " " + n, withLine(0, n, m, 0).dots(0, -1), n + 1);
            }
        }
    }

    private static void dueDots(String what, HandsPicture it, int[]... dots) {
        checks.due(what + ": how many", it.dots(0, 0), dots.length);
        for (int[] dot : dots) checks.due(what + ": " + dot[0] + " " + dot[1], it.meet(0, dot[0], dot[1]), 1);
        int met = 0;
        for (int place = 0; place < 400; place++) met += it.meet(0, place / 20, place % 20);
        checks.due(what + ": no others", met, dots.length);
    }

    private static void dotsHalvesUp() {
        checks.sentence("rounded (halves up, that is to the greater number)");
        dueDots("y, upward", withLine(0, 0, 2, 1), new int[][] {{0, 0}, {1, 1}, {2, 1}});
        dueDots("y, back", withLine(2, 1, 0, 0), new int[][] {{0, 0}, {1, 1}, {2, 1}});
        dueDots("y, downward", withLine(0, 1, 2, 0), new int[][] {{0, 1}, {1, 1}, {2, 0}});
        dueDots("y, downward, back", withLine(2, 0, 0, 1), new int[][] {{0, 1}, {1, 1}, {2, 0}});
        dueDots("x", withLine(0, 0, 1, 2), new int[][] {{0, 0}, {1, 1}, {1, 2}});
        dueDots("x, back", withLine(1, 2, 0, 0), new int[][] {{0, 0}, {1, 1}, {1, 2}});
        dueDots("x, downward", withLine(1, 0, 0, 2), new int[][] {{1, 0}, {1, 1}, {0, 2}});
        dueDots("a quarter", withLine(0, 0, 4, 1), new int[][] {{0, 0}, {1, 0}, {2, 1}, {3, 1}, {4, 1}});
        dueDots("a quarter, down", withLine(0, 1, 4, 0), new int[][] {{0, 1}, {1, 1}, {2, 1}, {3, 0}, {4, 0}});
        dueDots("far from the edges", withLine(9, 9, 12, 9), new int[][] {{9, 9}, {10, 9}, {11, 9}, {12, 9}});
        dueDots("straight down", withLine(9, 12, 9, 10), new int[][] {{9, 12}, {9, 11}, {9, 10}});
        dueDots("just the POINT", withLine(9, 9, 9, 9), new int[][] {{9, 9}});
        dueDots("three quarters", withLine(0, 0, 4, 3), new int[][] {{0, 0}, {1, 1}, {2, 2}, {3, 2}, {4, 3}});
        dueDots("thirds", withLine(5, 9, 8, 8), new int[][] {{5, 9}, {6, 9}, {7, 8}, {8, 8}});
        dueDots("one and a half", withLine(9, 17, 5, 11), new int[][] {{9, 17}, {8, 16}, {8, 15}, {7, 14}, {6, 13},
            {6, 12}, {5, 11}});
    }

    private static void dotsAtTheEdges() {
        checks.sentence("DOTS from the first POINT to the second, at the edges of where POINTS can stand");
        int[][] ends = {{0, 0}, {0, 19}, {19, 0}, {19, 19}};
        for (int[] a : ends) {
            for (int[] b : ends) {
                HandsPicture it = withLine(a[0], a[1], b[0], b[1]);
                boolean one = a == b;
                checks.due("dots", it.dots(0, -1), one ? 1 : 20);
                checks.due("the first", it.meet(0, a[0], a[1]), 1);
                checks.due("the last", it.meet(0, b[0], b[1]), 1);
            }
        }
        HandsPicture it = withLine(0, 0, 19, 18);
        checks.due("the first half", it.meet(0, 9, 9), 1);
        checks.due("behind the middle", it.meet(0, 10, 9), 1);
        checks.due("not on the diagonal", it.meet(0, 10, 10), 0);
    }

    private static void dotsOfAll() {
        checks.sentence("DOTS of all LINES: unlike ones");
        HandsPicture it = withLine(0, 3, 19, 3);
        it.line(1, 0);
        checks.due("there and back", it.dots(0, -1), 20);
        it.line(2, 3);
        it.move(0, 2, 7, 0);
        it.move(0, 3, 7, 19);
        checks.due("crossing", it.dots(0, -1), 39);
        it.move(0, 3, 7, 2);
        checks.due("beside it", it.dots(0, -1), 23);
        it.move(0, 3, 7, 3);
        checks.due("touching", it.dots(0, -1), 23);
        checks.due("none moved", it.dots(1, -1), 1);
        it = new HandsPicture();
        int[][] corners = {{0, 0}, {19, 0}, {19, 19}, {0, 19}};
        for (int i = 0; i < 4; i++) {
            it.move(0, i, corners[i][0], corners[i][1]);
            it.line(i, (i + 1) % 4);
        }
        checks.due("all around", it.dots(0, -1), 76);
        checks.due("no LINES", new HandsPicture().dots(0, -1), 0);
    }

    private static void dotsRefused() {
        checks.sentence("dots: line = -1: of all; BAD");
        HandsPicture it = withLine(0, 0, 3, 3);
        checks.due("-1", it.dots(0, -1), 4);
        checks.due("0", it.dots(0, 0), 4);
        checks.due("1", it.dots(0, 1), BAD);
        checks.due("-2", it.dots(0, -2), BAD);
        checks.due("the least", it.dots(0, Integer.MIN_VALUE), BAD);
        checks.due("the greatest", it.dots(0, Integer.MAX_VALUE), BAD);
        checks.due("hand 3", it.dots(3, -1), BAD);
        checks.due("hand -1", it.dots(-1, 0), BAD);
    }

    private static void meetEdges() {
        checks.sentence("MEET. BAD: x, y 0 .. 19");
        HandsPicture it = withLine(0, 0, 19, 19);
        for (int n : new int[] {-1, 20, Integer.MIN_VALUE, Integer.MAX_VALUE}) {
            checks.due("x " + n, it.meet(0, n, 0), BAD);
            checks.due("y " + n, it.meet(0, 0, n), BAD);
            checks.due("both", it.meet(0, n, n), BAD);
        }
        checks.due("0 0", it.meet(0, 0, 0), 1);
        checks.due("19 19", it.meet(0, 19, 19), 1);
        checks.due("0 19", it.meet(0, 0, 19), 0);
        checks.due("19 0", it.meet(0, 19, 0), 0);
        checks.due("hand 3", it.meet(3, 0, 0), BAD);
        checks.due("hand -1", it.meet(-1, 0, 0), BAD);
    }

    private static void meetLines() {
        checks.sentence("MEET: how many LINES have a DOT");
        HandsPicture it = withLine(3, 3, 9, 3);
        checks.due("one", it.meet(0, 6, 3), 1);
        it.line(0, 1);
        it.line(1, 0);
        checks.due("each for itself", it.meet(0, 6, 3), 3);
        it.line(2, 3);
        checks.due("not that one", it.meet(0, 6, 3), 3);
        checks.due("that one", it.meet(0, 5, 5), 1);
        it.move(0, 2, 9, 9);
        it.move(0, 3, 9, 3);
        checks.due("at one's end", it.meet(0, 9, 3), 4);
        checks.due("along the other", it.meet(0, 9, 4), 1);
    }

    private static void wordsAtMost() {
        checks.sentence("WORDS (12 at most)");
        HandsPicture it = new HandsPicture();
        for (int i = 1; i <= 12; i++) checks.due("word", it.word(3), i);
        checks.due("a 13th", it.word(20), FULL);
        checks.due("BAD ahead of FULL", it.word(0), BAD);
        checks.due("BAD ahead of FULL", it.word(21), BAD);
        checks.due("count", it.count(3), 12);
        checks.due("none is wider than 3", it.rows(3, 0), 12);
    }

    private static void wordWidths() {
        checks.sentence("WORDS have widths 1 .. 20");
        for (int width = 1; width <= 20; width++) {
            HandsPicture it = new HandsPicture();
            checks.due("width " + width, it.word(width), 1);
            checks.due("just fits", it.rows(width, 0), 1);
            checks.due("too wide", width > 1 ? it.rows(width - 1, 0) : NONE, NONE);
        }
        HandsPicture it = new HandsPicture();
        for (int width : new int[] {0, -1, 21, Integer.MIN_VALUE, Integer.MAX_VALUE}) {
            checks.due("width " + width, it.word(width), BAD);
            checks.due("count", it.count(3), 0);
        }
    }

    private static void boxes() {
        checks.sentence("a box of a width (1 .. 80)");
        HandsPicture it = Checks.withWords(1);
        for (int box : new int[] {0, -1, 81, Integer.MIN_VALUE, Integer.MAX_VALUE}) {
            checks.due("rows " + box, it.rows(box, 0), BAD);
            checks.due("squares " + box, it.rows(box, 1), BAD);
            checks.due("row " + box, it.row(box, 0), BAD);
        }
        for (int box = 1; box <= 80; box++) {
            checks.due("rows " + box, it.rows(box, 0), 1);
            checks.due("row " + box, it.row(box, 0), 0);
        }
        it = Checks.withWords(20, 20, 20, 17);
        checks.due("80 just fits", it.rows(80, 0), 1);
        checks.due("79 does not", it.rows(79, 0), 2);
        checks.due("rows, what -1", it.rows(80, -1), BAD);
        checks.due("rows, what 2", it.rows(80, 2), BAD);
    }

    private static void blankBetween() {
        checks.sentence("a blank of 1 between");
        HandsPicture it = Checks.withWords(4, 5);
        checks.due("just fits", it.rows(10, 0), 1);
        checks.due("no blank", it.rows(9, 0), 2);
        checks.due("what is left", it.rows(9, 1), 25);
        it = Checks.withWords(1, 1, 1, 1, 1, 1, 1, 1, 1, 1, 1, 1);
        checks.due("eleven blanks", it.rows(23, 0), 1);
        checks.due("one too few", it.rows(22, 0), 2);
        checks.due("what is left", it.rows(22, 1), 1);
        checks.due("the second row", it.row(22, 1), 11);
    }

    private static void widerThanTheBox() {
        checks.sentence("NONE: a WORD is wider than the box");
        int[][] words = {{9, 1, 1}, {1, 9, 1}, {1, 1, 9}};
        for (int[] widths : words) {
            HandsPicture it = Checks.withWords(widths);
            checks.due("how many", it.rows(8, 0), NONE);
            checks.due("squares", it.rows(8, 1), NONE);
            for (int i = 0; i < 4; i++) checks.due("row " + i, it.row(8, i), NONE);
            checks.due("BAD ahead of NONE", it.rows(8, 2), BAD);
            checks.due("BAD ahead of NONE", it.row(8, -1), BAD);
            checks.need("just as wide", it.rows(9, 0) > 0);
        }
        HandsPicture it = Checks.withWords(3);
        checks.due("fits", it.rows(3, 0), 1);
        it.word(4);
        checks.due("one more does not", it.rows(3, 0), NONE);
        checks.due("nor is there a row", it.row(3, 0), NONE);
    }

    private static void lastRowIsFree() {
        checks.sentence("squares of what is left, of all rows but the last");
        checks.due("just a last row", Checks.withWords(1).rows(80, 1), 0);
        checks.due("two, full and free", Checks.withWords(5, 1).rows(5, 1), 0);
        checks.due("two, left and full", Checks.withWords(1, 5).rows(5, 1), 16);
        checks.due("three", Checks.withWords(1, 5, 1).rows(5, 1), 16);
        checks.due("the most", Checks.withWords(1, 20, 1, 20, 1, 20, 1, 20, 1, 20, 1, 20).rows(20, 1), 6 * 361);
    }

    private static void leastTogether() {
        checks.sentence("so that squares are least together");
        HandsPicture it = Checks.withWords(3, 2, 2, 5);
        checks.due("9 and 1, not 0 and 16", it.rows(6, 1), 10);
        checks.due("row 1", it.row(6, 1), 1);
        checks.due("row 2", it.row(6, 2), 3);
        it = Checks.withWords(20, 20, 20, 20, 20, 20, 20, 20, 20, 20, 20, 20);
        checks.due("rows on 80", it.rows(80, 0), 4);
        checks.due("squares on 80", it.rows(80, 1), 3 * 18 * 18);
        for (int i = 0; i < 4; i++) checks.due("row " + i, it.row(80, i), 3 * i);
        checks.due("no more", it.row(80, 4), NONE);
    }

    private static void mostInTheFirstRow() {
        checks.sentence("of several so that the first row has the most WORDS, then the second, ..");
        HandsPicture it = Checks.withWords(1, 1, 1, 3);
        checks.due("squares", it.rows(3, 1), 4);
        checks.due("row 1", it.row(3, 1), 2);
        checks.due("row 2", it.row(3, 2), 3);
        it = Checks.withWords(3, 1, 1, 1, 3);
        checks.due("squares", it.rows(3, 1), 4);
        checks.due("row 1", it.row(3, 1), 1);
        checks.due("row 2", it.row(3, 2), 3);
        checks.due("row 3", it.row(3, 3), 4);
        it = Checks.withWords(3, 3, 1, 1, 1, 3);
        checks.due("the third row", it.row(3, 3), 4);
    }

    private static void asManyRowsAsWords() {
        checks.sentence("Rows for a box, as many as there can be");
        HandsPicture it = new HandsPicture();
        for (int i = 0; i < 12; i++) it.word(20);
        checks.due("rows", it.rows(20, 0), 12);
        checks.due("squares", it.rows(20, 1), 0);
        for (int i = 0; i < 12; i++) checks.due("row " + i, it.row(20, i), i);
        checks.due("row 12", it.row(20, 12), NONE);
        checks.due("on 40 still", it.rows(40, 0), 12);
        checks.due("squares on 40", it.rows(40, 1), 11 * 400);
        checks.due("on 41 half", it.rows(41, 0), 6);
        checks.due("on 19", it.rows(19, 0), NONE);
    }

    private static void noWords() {
        checks.sentence("Rows of no WORDS");
        HandsPicture it = new HandsPicture();
        for (int box : new int[] {1, 80}) {
            checks.due("how many", it.rows(box, 0), 0);
            checks.due("squares", it.rows(box, 1), 0);
            checks.due("row 0", it.row(box, 0), NONE);
            checks.due("row -1", it.row(box, -1), BAD);
        }
        checks.due("box 0", it.rows(0, 0), BAD);
        checks.due("box 81", it.row(81, 0), BAD);
    }

    private static void rowNumbers() {
        checks.sentence("NONE: there is no such row. BAD: i below 0, too");
        HandsPicture it = Checks.withWords(5, 5, 5);
        checks.due("row 0", it.row(5, 0), 0);
        checks.due("row 2", it.row(5, 2), 2);
        checks.due("row 3", it.row(5, 3), NONE);
        checks.due("the greatest", it.row(5, Integer.MAX_VALUE), NONE);
        checks.due("row -1", it.row(5, -1), BAD);
        checks.due("the least", it.row(5, Integer.MIN_VALUE), BAD);
    }

    private static void countsAtMost() {
        checks.sentence("0 LAWS, 1 CHANGES, 2 LINES, 3 WORDS, 4 bytes of THE TEXT, 5 the greatest STAMP: at most");
        HandsPicture it = Checks.with("levelAB;".repeat(12));
        for (int i = 0; i < 61; i++) it.move(0, 0, 0, 0);
        for (int i = 0; i < 9; i++) it.line(0, 1);
        for (int i = 0; i < 13; i++) it.word(1);
        for (int i = 0; i < 51; i++) it.type(0, 8);
        int[] due = {12, 60, 8, 12, 400, 60};
        for (int what = 0; what < 6; what++) checks.due("count " + what, it.count(what), due[what]);
    }

    private static void countWhats() {
        checks.sentence("count: BAD");
        HandsPicture it = new HandsPicture();
        for (int what = 0; what < 6; what++) checks.due("count " + what, it.count(what), 0);
        for (int what : new int[] {-1, 6, Integer.MIN_VALUE, Integer.MAX_VALUE}) {
            checks.due("count " + what, it.count(what), BAD);
        }
        it.move(0, 0, 0, 0);
        it.move(1, 0, 0, 0);
        it.back(1, 1);
        checks.due("CHANGES, a BACK too", it.count(1), 3);
        checks.due("the greatest STAMP of all HANDS", it.count(5), 2);
        it.move(2, 0, 0, 0);
        checks.due("a lesser one", it.count(5), 2);
    }
}
