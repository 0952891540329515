/** The boundaries that the document names for THE TEXT and THE LAWS (promises 1 to 5), each at both sides. */
public final class LawsEdgeTest {
    private static final int BAD = HandsPicture.BAD, FULL = HandsPicture.FULL;
    private static final String[] WORDS = {"level", "plumb", "right", "under", "wide", "tall"};
    private static final Checks checks = new Checks("LawsEdgeTest");

    public static void main(String[] args) {
        nothingAtFirst();
        bytesAtMost();
        bytesAtOnce();
        lowestBytes();
        readToTheLastByte();
        fullChangesNothing();
        clearEmptyAndFull();
        blanksAlone();
        bytesThatBeginNone();
        bytesBehindANumber();
        wordsThatAreNone();
        lawsAtMost();
        thirteenthByItsFirstToken();
        weights();
        sizes();
        gaps();
        numbersAboveOrZeroAhead();
        gapJustWhereItBelongs();
        letters();
        orderOfWishAndWhere();
        endsTooEarly();
        endsTooEarlyBehindBlanks();
        wishesAtMost();
        firstFaultOfSeveral();
        faultChangesNothing();
        noTextNoLaws();
        lawTold();
        lawReadOverAnother();
        lawNumbers();
        checks.end();
    }

    private static String blanks(int many) {
        return " ".repeat(many);
    }

    private static HandsPicture filled(int bytes) {
        HandsPicture it = new HandsPicture();
        Checks.type(it, blanks(bytes));
        return it;
    }

    private static void nothingAtFirst() {
        checks.sentence("No LAWS, no CHANGES, no LINES, no WORDS");
        HandsPicture it = new HandsPicture();
        for (int what = 0; what <= 5; what++) checks.due("count " + what, it.count(what), 0);
        checks.due("law", it.law(0, 0), BAD);
        checks.due("lay", it.lay(0, 0, 0), BAD);
        checks.due("forced", it.forced(0, 20, 0), BAD);
        checks.due("on", it.on(0, 0), 0);
        checks.due("change", it.change(0, 0), BAD);
        checks.due("sees", it.sees(0, 0), BAD);
        checks.due("back", it.back(0, 0), BAD);
        checks.due("ink", it.ink(0, 0, 0), BAD);
        checks.due("dots of one", it.dots(0, 0), BAD);
        checks.due("dots of all", it.dots(0, -1), 0);
        checks.due("meet", it.meet(0, 5, 5), 0);
        checks.due("rows", it.rows(1, 0), 0);
        checks.due("squares", it.rows(80, 1), 0);
        checks.due("row", it.row(80, 0), HandsPicture.NONE);
        checks.due("trace", it.trace(), 0);
        checks.due("clear", it.clear(), 0);
        checks.due("laws", it.laws(), 0);
    }

    private static void bytesAtMost() {
        checks.sentence("400 bytes at most");
        HandsPicture it = new HandsPicture();
        for (int i = 1; i <= 400; i++) checks.due("byte " + i, it.type(32, 1), i);
        checks.due("byte 401", it.type(32, 1), FULL);
        checks.due("count", it.count(4), 400);
        for (int n = 1; n <= 8; n++) {
            checks.due(n + " to 400", filled(400 - n).type(0, n), 400);
            checks.due(n + " to 399", filled(399 - n).type(0, n), 399);
            HandsPicture beyond = filled(401 - n);
            checks.due(n + " to 401", beyond.type(0, n), FULL);
            checks.due("count then", beyond.count(4), 401 - n);
        }
        checks.due("BAD ahead of FULL", filled(400).type(0, 9), BAD);
        checks.due("BAD ahead of FULL", filled(400).type(0, 0), BAD);
    }

    private static void bytesAtOnce() {
        checks.sentence("The lowest n (1 .. 8) bytes");
        HandsPicture it = new HandsPicture();
        int length = 0;
        for (int n = 1; n <= 8; n++) {
            length += n;
            checks.due("n " + n, it.type(0x2020202020202020L, n), length);
        }
        for (int n : new int[] {0, 9, -1, 10, 256 + 1, Integer.MIN_VALUE, Integer.MAX_VALUE}) {
            checks.due("n " + n, it.type(0x2020202020202020L, n), BAD);
            checks.due("count then", it.count(4), length);
        }
        checks.due("all are blanks", it.laws(), 0);
    }

    private static void lowestBytes() {
        checks.sentence("the lowest n bytes of v, the highest of them first, come to THE TEXT");
        String text = "levelAB;";
        for (int n = 1; n <= 8; n++) {
            HandsPicture it = new HandsPicture();
            Checks.type(it, text.substring(0, 8 - n));
            long v = -1;
            for (int i = 8 - n; i < 8; i++) v = v << 8 | text.charAt(i);
            checks.due("the last " + n, it.type(v, n), 8);
            checks.due("laws", it.laws(), 1);
        }
        HandsPicture it = new HandsPicture();
        it.type(Long.MIN_VALUE | 0x2020202020202020L, 8);
        checks.due("the highest bit is one of the first byte", it.laws(), -10);
        it = new HandsPicture();
        it.type(0x20202020202020a0L, 8);
        checks.due("byte 160 is no blank", it.laws(), -17);
        it = new HandsPicture();
        it.type(0x6c6576656c4142bbL, 8);
        checks.due("byte 187 is no ;", it.laws(), -17);
    }

    private static void readToTheLastByte() {
        checks.sentence("a text of 400 bytes is read to its last one");
        String open = "levelAB" + blanks(392);
        checks.due("; is the last", Checks.read(open + ";"), 1);
        checks.dueFault(open + "@", 399);
        checks.dueFault(open + " ", 400);
        checks.due("blanks to the last", Checks.read("levelAB;" + blanks(392)), 1);
        checks.due("blanks first", Checks.read(blanks(392) + "levelAB;"), 1);
        checks.dueFault(blanks(395) + "level", 400);
        checks.dueFault(blanks(396) + "leve", 396);
    }

    private static void fullChangesNothing() {
        checks.sentence("FULL: nothing changes");
        HandsPicture it = new HandsPicture();
        Checks.type(it, "levelAB;" + blanks(390));
        checks.due("three more", it.type(0x404040, 3), FULL);
        checks.due("two more", it.type(0x2020, 2), 400);
        checks.due("what stood is read", it.laws(), 1);
        checks.due("there is room again", it.type(0, 8), 8);
    }

    private static void clearEmptyAndFull() {
        checks.sentence("THE TEXT is empty: how many bytes it had");
        HandsPicture it = Checks.with("levelAB;");
        checks.due("empty", it.clear(), 0);
        it.type(0, 1);
        checks.due("one", it.clear(), 1);
        checks.due("empty again", it.clear(), 0);
        Checks.type(it, blanks(400));
        checks.due("full", it.clear(), 400);
        checks.due("count", it.count(4), 0);
        checks.due("room again", it.type(0, 8), 8);
        checks.due("LAWS stay", it.law(0, 2), 1);
        it.clear();
        checks.due("none is left to be read", it.laws(), 0);
    }

    private static void blanksAlone() {
        checks.sentence("blanks (32) between TOKENS");
        String tight = "wish1where2rightAB0;";
        String wide = "  wish   1  where  2  right  A  B  0  ;  ";
        checks.due("none where none is needed", Checks.read(tight), 1);
        checks.due("many, ahead and behind too", Checks.read(wide), 1);
        checks.due("just blanks", Checks.read("    "), 0);
        checks.dueFault("wis h1levelAB;", 0);
        checks.dueFault("rightAB1 9;", 9);
        checks.dueFault("le velAB;", 0);
    }

    /** Behind "level" a letter makes a word that is none; A .. F are A; a blank parts; all others can't stand. */
    private static void bytesThatBeginNone() {
        checks.sentence("FAULT of a byte that begins none");
        for (int c = 0; c < 256; c++) {
            int want = -10 - 5;
            if (c == ' ') want = 1;
            else if (c >= 'a' && c <= 'z') want = -10;
            else if (c == 'A') want = -10 - 6;
            else if (c >= 'B' && c <= 'F') want = -10 - 7;
            checks.due("byte " + c, Checks.read("level" + (char) c + "AB;"), want);
            checks.due("byte " + c + " alone", Checks.read("" + (char) c), c == ' ' ? 0 : -10);
            checks.due("byte " + c + " behind a LAW", Checks.read("levelAB;" + (char) c), c == ' ' ? 1 : -18);
        }
    }

    private static void bytesBehindANumber() {
        checks.sentence("FAULT of a byte that begins none, behind a NUMBER");
        for (int c = 0; c < 256; c++) {
            int want = -10 - 7;
            if (c == ' ' || c >= '0' && c <= '9') want = 1;
            else if (c == ';') want = -10 - 8;
            checks.due("byte " + c, Checks.read("tallAB1" + (char) c + ";"), want);
        }
    }

    private static void wordsThatAreNone() {
        checks.sentence("FAULT of a word that is none of these");
        for (int word = 0; word < 6; word++) {
            String rest = word < 2 ? " A B;" : " A B 3;";
            String name = WORDS[word];
            checks.due(name, Checks.read(name + rest), 1);
            checks.dueFault(" " + name.substring(1) + rest, 1);
            checks.dueFault(" " + name.substring(0, name.length() - 1) + rest, 1);
            checks.dueFault(" " + name + "s" + rest, 1);
            checks.dueFault(" " + name + name + rest, 1);
            checks.dueFault(" " + name.toUpperCase() + rest, 1);
        }
        for (String text : new String[] {"level A B;", "plumb A B;", "right A B 3;", "under A B 3;", "wide A B 3;",
            "tall A B 3;", "wish 3 level A B;", "where 3 level A B;"}) {
            for (int i = 0; i < text.indexOf(' '); i++) {
                char other = text.charAt(i) == 'x' ? 'y' : 'x';
                checks.dueFault(text.substring(0, i) + other + text.substring(i + 1), 0);
            }
        }
        checks.dueFault("wishes 1 level A B;", 0);
        checks.dueFault("wish 1 wher 5 level A B;", 7);
        checks.dueFault("wish 1 wherelevel A B;", 7);
        checks.dueFault("level a B;", 6);
        checks.dueFault("level A b;", 8);
    }

    private static void lawsAtMost() {
        checks.sentence("LAWS, 12 at most");
        for (int many = 0; many <= 12; many++) {
            checks.due(many + " LAWS", Checks.read("levelAB;".repeat(many)), many);
        }
        for (int many = 13; many <= 15; many++) {
            checks.due(many + " LAWS", Checks.read("levelAB;".repeat(many)), -10 - 96);
        }
        HandsPicture it = Checks.with("levelAB;".repeat(12));
        checks.due("count", it.count(0), 12);
        checks.due("all are ON", it.on(0, 0), 4095);
        checks.due("the last", it.law(11, 2), 1);
        checks.due("no 13th", it.law(12, 2), BAD);
    }

    private static void thirteenthByItsFirstToken() {
        checks.sentence("FAULT: the first TOKEN of a 13th LAW");
        String twelve = "levelAB;".repeat(12);
        checks.due("blanks are none", Checks.read(twelve + "     "), 12);
        for (String next : new String[] {"wish 1 levelAB;", "where 5 levelAB;", "tall", ";", "A", "7", "05", "@", "x"}) {
            checks.dueFault(twelve + next, 96);
            checks.dueFault(twelve + "   " + next, 99);
        }
    }

    private static void weights() {
        checks.sentence("WEIGHT (1 .. 9)");
        for (int weight = 1; weight <= 9; weight++) {
            checks.due("weight " + weight, Checks.with("wish " + weight + " level A B;").law(0, 4), weight);
        }
        for (int weight : new int[] {0, 10, 11, 20, 99}) checks.dueFault("wish " + weight + " level A B;", 5);
        checks.dueFault("wish level A B;", 5);
        checks.dueFault("wish ; level A B;", 5);
        checks.dueFault("wish A level A B;", 5);
    }

    private static void sizes() {
        checks.sentence("SIZE (2 .. 20)");
        for (int size = 2; size <= 20; size++) {
            checks.due("size " + size, Checks.with("where " + size + " level A B;").law(0, 5), size);
        }
        for (int size : new int[] {0, 1, 21, 22, 99}) {
            checks.dueFault("where " + size + " level A B;", 6);
            checks.dueFault("wish 9 where " + size + " level A B;", 13);
        }
        checks.dueFault("where level A B;", 6);
    }

    private static void gaps() {
        checks.sentence("N: 0 .. 19");
        for (int word = 2; word < 6; word++) {
            int place = WORDS[word].length() + 5;
            for (int n = 0; n <= 19; n++) {
                checks.due(WORDS[word] + n, Checks.with(WORDS[word] + " A B " + n + ";").law(0, 3), n);
            }
            for (int n : new int[] {20, 21, 29, 30, 99}) checks.dueFault(WORDS[word] + " A B " + n + ";", place);
        }
    }

    private static void numbersAboveOrZeroAhead() {
        checks.sentence("FAULT of a NUMBER above 99 or with a 0 ahead");
        String[] none = {"100", "101", "110", "999", "1000", "00", "01", "05", "09", "010", "000", "4294967297",
            "4294967301", "18446744073709551621", "9".repeat(300)};
        for (String number : none) {
            checks.dueFault("right A B " + number + ";", 10);
            checks.dueFault("wish " + number + " level A B;", 5);
            checks.dueFault("where " + number + " level A B;", 6);
            checks.dueFault(" " + number, 1);
            checks.dueFault("level A B " + number, 10);
        }
        checks.due("0 alone", Checks.with("tall A B 0;").law(0, 3), 0);
        checks.due("0 behind another", Checks.with("tall A B 10;").law(0, 3), 10);
    }

    private static void gapJustWhereItBelongs() {
        checks.sentence("level, plumb A B; right, under, wide, tall A B N");
        for (int word = 0; word < 6; word++) {
            String ends = WORDS[word] + " A B";
            if (word < 2) {
                checks.due(ends, Checks.read(ends + ";"), 1);
                checks.dueFault(ends + " 0;", ends.length() + 1);
            } else {
                checks.due(ends, Checks.read(ends + " 0;"), 1);
                checks.dueFault(ends + ";", ends.length());
                checks.dueFault(ends + " 1 2;", ends.length() + 3);
            }
        }
    }

    private static void letters() {
        checks.sentence("A, B: letters A .. F, unlike ones");
        for (int word = 0; word < 6; word++) {
            String rest = word < 2 ? ";" : " 3;";
            int place = WORDS[word].length() + 1;
            for (int a = 0; a < 6; a++) {
                for (int b = 0; b < 6; b++) {
                    String text = WORDS[word] + " " + (char) ('A' + a) + " " + (char) ('A' + b) + rest;
                    if (a == b) {
                        checks.dueFault(text, place + 2);
                    } else {
                        HandsPicture it = Checks.with(text);
                        checks.due(text + " word", it.law(0, 0), word);
                        checks.due(text + " A", it.law(0, 1), a);
                        checks.due(text + " B", it.law(0, 2), b);
                    }
                }
            }
            for (String none : new String[] {"@", "G", "a", "Z", "1", ";", "level"}) {
                checks.dueFault(WORDS[word] + " " + none + " B" + rest, place);
                checks.dueFault(WORDS[word] + " A " + none + rest, place + 2);
            }
        }
    }

    private static void orderOfWishAndWhere() {
        checks.sentence("each perhaps wish, then perhaps where, then one of these, then ;");
        checks.due("neither", Checks.read("level A B;"), 1);
        checks.due("wish", Checks.read("wish 1 level A B;"), 1);
        checks.due("where", Checks.read("where 5 level A B;"), 1);
        checks.due("both", Checks.read("wish 1 where 5 level A B;"), 1);
        checks.dueFault("where 5 wish 1 level A B;", 8);
        checks.dueFault("wish 1 wish 1 level A B;", 7);
        checks.dueFault("where 5 where 5 level A B;", 8);
        checks.dueFault("wish 1;", 6);
        checks.dueFault("where 5;", 7);
        checks.dueFault("level A B level A B;", 10);
        checks.dueFault("level A B;;", 10);
    }

    private static void endsTooEarly() {
        checks.sentence("FAULT: the text's length, if it ends too early");
        String text = "wish 3 where 4 wide A B 5 ;";
        for (int length = 1; length < text.length(); length++) {
            int place = length;
            if (length < 4) place = 0;
            else if (length >= 8 && length < 12) place = 7;
            else if (length >= 16 && length < 19) place = 15;
            checks.dueFault(text.substring(0, length), place);
            checks.dueFault("tallFA19;" + text.substring(0, length), 9 + place);
        }
        checks.due("none of it", Checks.read(""), 0);
        checks.due("all of it", Checks.read(text), 1);
    }

    private static void endsTooEarlyBehindBlanks() {
        checks.sentence("FAULT: the text's length, blanks too");
        checks.dueFault("level   ", 8);
        checks.dueFault("  level A    ", 13);
        checks.dueFault("levelAB;tall A B 3    ", 22);
        checks.dueFault("wish ", 5);
        checks.dueFault("where 20 ", 9);
    }

    private static void wishesAtMost() {
        checks.sentence("Six wishes at most");
        String wish = "wish1levelAB;";
        for (int many = 1; many <= 6; many++) {
            checks.due(many + " wishes", Checks.read(wish.repeat(many)), many);
            checks.due("and LAWS to 12", Checks.read(wish.repeat(many) + "levelAB;".repeat(12 - many)), 12);
            checks.due("behind those", Checks.read("levelAB;".repeat(12 - many) + wish.repeat(many)), 12);
        }
        checks.dueFault(wish.repeat(7), 78);
        checks.dueFault("levelAB;" + wish.repeat(6) + "  wish1levelAB;", 88);
        checks.dueFault(wish.repeat(6) + "levelAB;wish", 86);
        checks.dueFault(wish.repeat(6) + "wish 0", 78);
        HandsPicture it = Checks.with(wish.repeat(6));
        checks.due("six anew", Checks.readAnew(it, wish.repeat(6)), 6);
        checks.due("seven anew", Checks.readAnew(it, wish.repeat(7)), -88);
        it.clear();
        checks.due("six once more", Checks.readAnew(it, wish.repeat(6)), 6);
    }

    private static void firstFaultOfSeveral() {
        checks.sentence("FAULT: the first TOKEN that can't stand there");
        checks.dueFault("level A A; @", 8);
        checks.dueFault("wish 0 where 1 levels A A 05", 5);
        checks.dueFault("wish 1 where 1 levels A A 05", 13);
        checks.dueFault("wish 1 where 2 levels A A 05", 15);
        checks.dueFault("wish 1 where 2 tall A A 05", 22);
        checks.dueFault("wish 1 where 2 tall A B 05", 24);
        checks.dueFault("wish 1 where 2 tall A B 5", 25);
        checks.dueFault("levelAB;".repeat(12) + "wish 0 @", 96);
        checks.dueFault("level ; @", 6);
    }

    private static void faultChangesNothing() {
        checks.sentence("-10 less FAULT: nothing changes");
        HandsPicture it = Checks.with("wish 7 where 9 tall B C 4; plumb D E;");
        it.lay(0, 1, 0);
        checks.due("a fault", Checks.readAnew(it, "levelABlevelCD;"), -17);
        checks.due("LAWS", it.count(0), 2);
        int[] due = {5, 1, 2, 4, 7, 9};
        for (int what = 0; what < 6; what++) checks.due("law 0 " + what, it.law(0, what), due[what]);
        checks.due("AWAY still", it.on(0, 9), 1);
        checks.due("THE TEXT", it.count(4), 15);
        checks.due("the same fault", it.laws(), -17);
        checks.due("its bytes", it.clear(), 15);
        Checks.type(it, "levelA");
        checks.due("too early", it.laws(), -16);
        Checks.type(it, "B;");
        checks.due("gone on with", it.laws(), 1);
        checks.due("empty then", it.count(4), 0);
    }

    private static void noTextNoLaws() {
        checks.sentence("THE TEXT becomes THE LAWS: how many (an empty text)");
        HandsPicture it = Checks.with("levelAB;plumbAB;");
        checks.due("empty", it.laws(), 0);
        checks.due("no LAWS now", it.count(0), 0);
        checks.due("law 0", it.law(0, 0), BAD);
        checks.due("on", it.on(0, 0), 0);
        checks.due("lay", it.lay(0, 0, 1), BAD);
    }

    private static void lawTold() {
        checks.sentence("0 its word, 1 A, 2 B, 3 N (0), 4 WEIGHT (0: FIRM), 5 SIZE of where (0)");
        HandsPicture it = Checks.with("level F E; plumb A F; right B A 19; wish 1 under C D 0; where 2 wide D C 1;"
                + " wish 9 where 20 tall E F 18;");
        int[][] due = {{0, 5, 4, 0, 0, 0}, {1, 0, 5, 0, 0, 0}, {2, 1, 0, 19, 0, 0}, {3, 2, 3, 0, 1, 0},
            {4, 3, 2, 1, 0, 2}, {5, 4, 5, 18, 9, 20}};
        for (int i = 0; i < 6; i++) {
            for (int what = 0; what < 6; what++) checks.due("law " + i + " " + what, it.law(i, what), due[i][what]);
            checks.due("what -1", it.law(i, -1), BAD);
            checks.due("what 6", it.law(i, 6), BAD);
        }
    }

    private static void lawReadOverAnother() {
        checks.sentence("3 N (0), 4 WEIGHT (0: FIRM), 5 SIZE of where (0), where others stood before");
        HandsPicture it = Checks.with("wish 9 where 20 wide B C 19;");
        for (int time = 0; time < 3; time++) {
            checks.due("anew", Checks.readAnew(it, "level A F;"), 1);
            int[] due = {0, 0, 5, 0, 0, 0};
            for (int what = 0; what < 6; what++) checks.due("law 0 " + what, it.law(0, what), due[what]);
        }
    }

    private static void lawNumbers() {
        checks.sentence("Of a LAW: BAD (there is no such thing)");
        HandsPicture it = Checks.with("levelAB;".repeat(12));
        checks.due("law 11", it.law(11, 0), 0);
        checks.due("law 12", it.law(12, 0), BAD);
        checks.due("law -1", it.law(-1, 0), BAD);
        Checks.readAnew(it, "levelAB;");
        checks.due("law 0 of one", it.law(0, 2), 1);
        checks.due("law 1 of one", it.law(1, 2), BAD);
        checks.due("lay 1 of one", it.lay(0, 1, 0), BAD);
        checks.due("forced 1 of one", it.forced(0, 20, 1), BAD);
        checks.due("lay 0 of one", it.lay(0, 0, 0), 0);
    }
}
