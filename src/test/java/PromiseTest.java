/** Each promise of the document, one method each: ordinary calls, the edges that it names, wrong calls. */
public final class PromiseTest {
    private static final int BAD = HandsPicture.BAD, STATE = HandsPicture.STATE;
    private static final int FULL = HandsPicture.FULL, NONE = HandsPicture.NONE;
    private static int wrong = 0;
    private static String promise = "";

    private static void due(String call, long got, long want) {
        if (got != want) {
            wrong++;
            System.out.println(promise + ": " + call + " answered " + got + ", due is " + want);
        }
    }

    private static void begin(String name) {
        promise = name;
    }

    private static void type(HandsPicture it, String text) {
        for (int i = 0; i < text.length(); i++) it.type(text.charAt(i), 1);
    }

    /** A new object whose LAWS these are. */
    private static HandsPicture with(String laws) {
        HandsPicture it = new HandsPicture();
        type(it, laws);
        if (it.laws() < 0) due("laws " + laws, -1, 0);
        return it;
    }

    private static int read(String text) {
        HandsPicture it = new HandsPicture();
        type(it, text);
        return it.laws();
    }

    private static void dueFault(String text, int place) {
        due("laws of '" + text + "'", read(text), -10 - place);
    }

    public static void main(String[] args) {
        newObject();
        typeBytes();
        clearText();
        readLaws();
        faultsInTokens();
        faultsInOrder();
        faultsOfLimits();
        tellLaw();
        moves();
        lays();
        backs();
        joins();
        changes();
        seesOnes();
        standsAt();
        lawsOn();
        lawsReadAnew();
        bothMoved();
        unlikeOnes();
        setLeastMoved();
        setByWishes();
        setOfSeveral();
        setAfterChanges();
        setRefused();
        aboutSet();
        quarrels();
        forcedLaws();
        knots();
        linesMade();
        inks();
        dotsCounted();
        meets();
        wordsMade();
        rowsBroken();
        rowFirsts();
        counts();
        traces();
        fullOfChanges();
        System.out.println("PromiseTest: " + wrong + " answers are not as due");
        if (wrong > 0) System.exit(1);
    }

    private static void newObject() {
        begin("1 a new object");
        HandsPicture it = new HandsPicture();
        for (int what = 0; what <= 5; what++) due("count " + what, it.count(what), 0);
        due("trace", it.trace(), 0);
        for (int p = 0; p < 6; p++) {
            due("x", it.stands(p % 3, 0, p, 0), 5);
            due("y", it.stands(p % 3, 60, p, 1), 5);
        }
        due("on", it.on(0, 0), 0);
        due("rows", it.rows(1, 0), 0);
        due("squares", it.rows(1, 1), 0);
        due("dots", it.dots(0, -1), 0);
        due("law", it.law(0, 0), BAD);
        due("change", it.change(0, 0), BAD);
        due("another object", new HandsPicture().count(0), 0);
    }

    private static void typeBytes() {
        begin("2 type");
        HandsPicture it = new HandsPicture();
        due("n 0", it.type(65, 0), BAD);
        due("n 9", it.type(65, 9), BAD);
        due("n -1", it.type(65, -1), BAD);
        due("8 bytes", it.type(0x6c6576656c41423bL, 8), 8);
        due("the lowest alone", it.type(0x7777777777777720L, 1), 9);
        due("a negative one", it.type(-1L, 1), 10);
        due("the highest first", it.laws(), -10 - 9);
        it.clear();
        for (int i = 0; i < 49; i++) it.type(0x2020202020202020L, 8);
        due("392", it.count(4), 392);
        due("to 399", it.type(0, 7), 399);
        due("beyond 400", it.type(0, 2), FULL);
        due("BAD ahead of FULL", it.type(0, 9), BAD);
        due("to 400", it.type(32, 1), 400);
        due("401", it.type(32, 1), FULL);
        due("nothing changed", it.count(4), 400);
    }

    private static void clearText() {
        begin("3 clear");
        HandsPicture it = with("levelAB;");
        due("of none", it.clear(), 0);
        type(it, "wish");
        due("of four", it.clear(), 4);
        due("again", it.clear(), 0);
        due("laws stay", it.count(0), 1);
    }

    private static void readLaws() {
        begin("4 laws");
        due("none", read(""), 0);
        due("blanks", read("   "), 0);
        due("all words", read("level A B; plumb B C; right C D 0; under D E 19; wide E F 7; tall F A 10;"), 6);
        due("no blanks", read("wish1where2rightAB0;wish9where20tallFE19;"), 2);
        due("many blanks", read("  wish  3  where  4  wide  A  B  5  ;  "), 1);
        HandsPicture it = with("levelAB;plumbAB;");
        due("the text is empty then", it.count(4), 0);
        type(it, "levelAC;x");
        due("a fault", it.laws(), -18);
        due("laws stay", it.count(0), 2);
        due("law stays", it.law(0, 2), 1);
        due("the text stays", it.count(4), 9);
        it.clear();
        due("none again", it.laws(), 0);
        due("no laws now", it.count(0), 0);
    }

    private static void faultsInTokens() {
        begin("4 laws, FAULT of a token");
        dueFault("levels A B;", 0);
        dueFault("lev", 0);
        dueFault("Level A B;", 0);
        dueFault(" wishwhere 2 level A B;", 1);
        dueFault("level A G;", 8);
        dueFault("level A @;", 8);
        dueFault("level A b;", 8);
        dueFault("level\tA B;", 5);
        dueFault("level A B\0;", 9);
        dueFault("level A B\u00ff;", 9);
        dueFault("tall A B 05;", 9);
        dueFault("tall A B 00;", 9);
        dueFault("tall A B 100;", 9);
        dueFault("tall A B 99999999999999999999;", 9);
        dueFault("tall A B 4294967297;", 9);
        dueFault("tall A B 1 2;", 11);
        dueFault("tall A B -1;", 9);
        due("0 alone", read("tall A B 0;"), 1);
    }

    private static void faultsInOrder() {
        begin("4 laws, FAULT of what can't stand there");
        dueFault(";", 0);
        dueFault("A", 0);
        dueFault("7", 0);
        dueFault("level ;", 6);
        dueFault("level 1 B;", 6);
        dueFault("level AA;", 7);
        dueFault("level A level", 8);
        dueFault("level A B 1;", 10);
        dueFault("level A B C;", 10);
        dueFault("wide A B;", 8);
        dueFault("wide A B A;", 9);
        dueFault("where 5 wish 5 level A B;", 8);
        dueFault("wish 1 wish 2 level A B;", 7);
        dueFault("where 5 where 6 level A B;", 8);
        dueFault("wish level A B;", 5);
        dueFault("where A", 6);
        dueFault("wish 3;", 6);
        dueFault("level A B;;", 10);
        dueFault("level", 5);
        dueFault("level A", 7);
        dueFault("level A B", 9);
        dueFault("tall A B  ", 10);
        dueFault("tall A B 3", 10);
        dueFault("wish", 4);
        dueFault("wish 2", 6);
        dueFault("where ", 6);
        dueFault("where 20", 8);
    }

    private static void faultsOfLimits() {
        begin("4 laws, FAULT of a limit");
        dueFault("wish 0 level A B;", 5);
        dueFault("wish 10 level A B;", 5);
        dueFault("where 1 level A B;", 6);
        dueFault("where 21 level A B;", 6);
        dueFault("right A B 20;", 10);
        dueFault("under A B 99;", 10);
        String twelve = "levelAB;".repeat(12);
        due("twelve", read(twelve), 12);
        due("twelve and blanks", read(twelve + "   "), 12);
        dueFault(twelve + "levelAB;", 96);
        dueFault(twelve + "  ;", 98);
        dueFault(twelve + "x", 96);
        String six = "wish1levelAB;".repeat(6);
        due("six wishes", read(six + "levelAB;"), 7);
        dueFault(six + "levelAB;wish1levelAB;", 86);
        dueFault(six + "wish", 78);
    }

    private static void tellLaw() {
        begin("5 law");
        HandsPicture it = with("wish 9 where 20 right F A 19; tall B C 7; plumb D E; level E D;");
        int[][] due = {{2, 5, 0, 19, 9, 20}, {5, 1, 2, 7, 0, 0}, {1, 3, 4, 0, 0, 0}, {0, 4, 3, 0, 0, 0}};
        for (int i = 0; i < 4; i++) {
            for (int what = 0; what < 6; what++) due("law " + i + " " + what, it.law(i, what), due[i][what]);
        }
        due("no such", it.law(4, 0), BAD);
        due("below", it.law(-1, 0), BAD);
        due("what 6", it.law(0, 6), BAD);
        due("what -1", it.law(0, -1), BAD);
    }

    private static void moves() {
        begin("6 move");
        HandsPicture it = new HandsPicture();
        due("first", it.move(2, 5, 0, 19), 0);
        due("x", it.stands(2, 1, 5, 0), 0);
        due("y", it.stands(2, 1, 5, 1), 19);
        due("second", it.move(0, 0, 19, 0), 1);
        due("hand 3", it.move(3, 0, 1, 1), BAD);
        due("hand -1", it.move(-1, 0, 1, 1), BAD);
        due("point 6", it.move(0, 6, 1, 1), BAD);
        due("point -1", it.move(0, -1, 1, 1), BAD);
        due("x 20", it.move(0, 0, 20, 1), BAD);
        due("x -1", it.move(0, 0, -1, 1), BAD);
        due("y 20", it.move(0, 0, 1, 20), BAD);
        due("y -1", it.move(0, 0, 1, -1), BAD);
        due("nothing changed", it.count(1), 2);
    }

    private static void lays() {
        begin("7 lay");
        HandsPicture it = with("levelAB;plumbAB;");
        due("away", it.lay(0, 1, 0), 0);
        due("on", it.on(0, 9), 1);
        due("away again", it.lay(0, 1, 0), 1);
        due("laid", it.lay(0, 1, 1), 2);
        due("on", it.on(0, 9), 3);
        due("law 2", it.lay(0, 2, 0), BAD);
        due("law -1", it.lay(0, -1, 0), BAD);
        due("on 2", it.lay(0, 0, 2), BAD);
        due("on -1", it.lay(0, 0, -1), BAD);
        due("hand 3", it.lay(3, 0, 0), BAD);
        due("no laws", new HandsPicture().lay(0, 0, 0), BAD);
        due("nothing changed", it.count(1), 3);
    }

    private static void backs() {
        begin("8 back");
        HandsPicture it = with("levelAB;");
        it.move(0, 0, 1, 1);
        it.move(0, 0, 2, 2);
        it.lay(1, 0, 0);
        due("of another", it.back(1, 0), BAD);
        due("no such", it.back(0, 3), BAD);
        due("below", it.back(0, -1), BAD);
        due("hand 3", it.back(3, 0), BAD);
        due("the first", it.back(0, 0), 3);
        due("a back", it.back(0, 3), BAD);
        due("taken back", it.back(0, 0), STATE);
        due("the second stands", it.stands(0, 9, 0, 0), 2);
        due("the second", it.back(0, 1), 4);
        due("none stands", it.stands(0, 9, 0, 0), 5);
        due("a law's", it.back(1, 2), 5);
        due("on again", it.on(1, 9), 1);
        due("as of the stamp before", it.on(1, 1), 0);
    }

    private static void joins() {
        begin("9 join");
        HandsPicture it = new HandsPicture();
        it.move(0, 0, 1, 1);
        it.move(1, 0, 2, 2);
        due("itself", it.join(1, 1), BAD);
        due("hand 3", it.join(3, 0), BAD);
        due("other 3", it.join(0, 3), BAD);
        due("other -1", it.join(0, -1), BAD);
        due("one", it.join(1, 0), 1);
        due("none", it.join(1, 0), 0);
        due("through another", it.join(2, 1), 2);
        it.move(0, 0, 3, 3);
        due("not what came later", it.sees(1, 2), 0);
        due("the other does not see", it.sees(0, 1), 0);
        due("no change was made", it.count(1), 3);
    }

    private static void changes() {
        begin("10 change");
        HandsPicture it = with("levelAB;plumbAB;");
        it.move(1, 4, 3, 17);
        it.lay(1, 1, 0);
        it.join(2, 1);
        it.lay(2, 0, 1);
        it.back(1, 0);
        it.move(0, 1, 0, 0);
        int[][] due = {{1, 0, 4, 3, 17, 1}, {1, 1, 1, 0, 0, 2}, {2, 2, 0, 0, 0, 3}, {1, 3, 0, 0, 0, 3}, {0, 0, 1, 0, 0, 1}};
        for (int i = 0; i < 5; i++) {
            for (int what = 0; what < 6; what++) due("change " + i + " " + what, it.change(i, what), due[i][what]);
        }
        due("no such", it.change(5, 0), BAD);
        due("below", it.change(-1, 0), BAD);
        due("what 6", it.change(0, 6), BAD);
        due("what -1", it.change(0, -1), BAD);
    }

    private static void seesOnes() {
        begin("11 sees");
        HandsPicture it = new HandsPicture();
        due("none", it.sees(0, 0), BAD);
        it.move(0, 0, 1, 1);
        due("its own", it.sees(0, 0), 1);
        due("another's", it.sees(1, 0), 0);
        it.join(1, 0);
        due("joined", it.sees(1, 0), 1);
        due("no such", it.sees(0, 1), BAD);
        due("below", it.sees(0, -1), BAD);
        due("hand 3", it.sees(3, 0), BAD);
    }

    private static void standsAt() {
        begin("12 stands");
        HandsPicture it = new HandsPicture();
        it.move(2, 0, 7, 8);
        it.move(0, 0, 1, 2);
        it.move(0, 0, 3, 4);
        it.join(0, 2);
        due("as of 1, the greater hand last", it.stands(0, 1, 0, 0), 7);
        due("as of 2, the greater stamp last", it.stands(0, 2, 0, 0), 3);
        due("y", it.stands(0, 2, 0, 1), 4);
        due("as of 0", it.stands(0, 0, 0, 1), 5);
        due("hand 2 sees less", it.stands(2, 60, 0, 0), 7);
        it.back(0, 2);
        due("taken back as of 3", it.stands(0, 3, 0, 0), 7);
        due("not yet as of 2", it.stands(0, 2, 0, 0), 3);
        due("a great stamp", it.stands(0, Integer.MAX_VALUE, 0, 0), 7);
        due("stamp -1", it.stands(0, -1, 0, 0), BAD);
        due("point 6", it.stands(0, 0, 6, 0), BAD);
        due("point -1", it.stands(0, 0, -1, 0), BAD);
        due("what 2", it.stands(0, 0, 0, 2), BAD);
        due("what -1", it.stands(0, 0, 0, -1), BAD);
        due("hand -1", it.stands(-1, 0, 0, 0), BAD);
    }

    private static void lawsOn() {
        begin("13 on");
        HandsPicture it = with("levelAB;plumbAB;tallAB3;");
        it.lay(1, 0, 0);
        it.lay(0, 0, 1);
        it.join(0, 1);
        due("of one stamp the greater hand", it.on(0, 1), 6);
        it.lay(0, 0, 1);
        due("as of 1", it.on(0, 1), 6);
        due("as of 2", it.on(0, 2), 7);
        it.lay(0, 2, 0);
        it.back(0, 3);
        due("taken back", it.on(0, 4), 7);
        due("not yet", it.on(0, 3), 3);
        due("of none", it.on(2, 9), 7);
        due("stamp -1", it.on(0, -1), BAD);
        due("hand 3", it.on(3, 0), BAD);
    }

    private static void lawsReadAnew() {
        begin("13 on, LAWS read anew");
        HandsPicture it = with("levelAB;plumbAB;");
        it.lay(0, 0, 0);
        it.move(0, 0, 9, 9);
        type(it, "levelAB;wrong");
        due("a fault", it.laws(), -18);
        due("away still", it.on(0, 9), 2);
        it.clear();
        type(it, "levelAB;plumbAB;tallAB1;");
        due("anew", it.laws(), 3);
        due("all on", it.on(0, 9), 7);
        due("moves stay", it.stands(0, 9, 0, 0), 9);
        due("changes stay", it.count(1), 2);
        due("may be taken back still", it.back(0, 0), 2);
        due("all on still", it.on(0, 9), 7);
        it.lay(0, 2, 0);
        due("away anew", it.on(0, 9), 3);
    }

    private static void bothMoved() {
        begin("14 both");
        HandsPicture it = new HandsPicture();
        it.move(0, 0, 1, 1);
        it.move(1, 0, 1, 1);
        it.move(1, 3, 2, 2);
        due("sees just its own", it.both(0), 0);
        it.join(0, 1);
        due("sees two", it.both(0), 1);
        it.move(0, 3, 4, 4);
        due("it saw the other one", it.both(0), 1);
        it.move(2, 3, 9, 9);
        it.join(2, 0);
        due("two points", it.both(2), 9);
        it.back(1, 1);
        due("not seen to be taken back", it.both(2), 9);
        it.join(2, 1);
        due("taken back", it.both(2), 8);
        due("hand 3", it.both(3), BAD);
        due("hand -1", it.both(-1), BAD);
    }

    private static void unlikeOnes() {
        begin("15 unlike");
        HandsPicture it = with("levelAB;plumbAB;tallAB3;");
        due("none", it.unlike(0, 1), 0);
        it.move(0, 0, 5, 6);
        it.move(0, 1, 4, 5);
        it.move(1, 2, 5, 5);
        due("points", it.unlike(0, 1), 2);
        it.lay(0, 1, 0);
        it.lay(1, 2, 0);
        it.lay(1, 0, 1);
        due("laws too", it.unlike(0, 1), 4);
        due("the other way", it.unlike(1, 0), 4);
        due("itself", it.unlike(0, 0), 0);
        it.join(0, 1);
        it.join(1, 0);
        due("one picture", it.unlike(0, 1), 0);
        due("hand 3", it.unlike(0, 3), BAD);
        due("hand -1", it.unlike(-1, 0), BAD);
    }

    private static void dueSet(HandsPicture it, int size, int what, int... values) {
        for (int p = 0; p < values.length; p++) {
            due("set " + size + " " + p + " " + what, it.set(0, size, p, what), values[p]);
        }
    }

    private static void setLeastMoved() {
        begin("16 set, least moved");
        HandsPicture it = new HandsPicture();
        it.move(0, 1, 19, 0);
        it.move(0, 2, 3, 12);
        dueSet(it, 20, 0, 5, 19, 3, 5, 5, 5);
        dueSet(it, 4, 0, 3, 3, 3, 3, 3, 3);
        dueSet(it, 4, 1, 3, 0, 3, 3, 3, 3);
        it = with("wide A B 3; level C D; right E F 4;");
        it.move(0, 0, 10, 5);
        it.move(0, 1, 13, 5);
        it.move(0, 3, 5, 9);
        it.move(0, 5, 19, 5);
        dueSet(it, 20, 0, 10, 13, 5, 5, 5, 19);
        dueSet(it, 20, 1, 5, 5, 5, 5, 5, 5);
        due("hands differ", it.set(1, 20, 5, 0), 5);
        due("the first of several", it.set(1, 20, 4, 0), 1);
        it.lay(0, 2, 0);
        it.move(0, 5, 6, 5);
        dueSet(it, 20, 0, 10, 13, 5, 5, 5, 6);
    }

    private static void setByWishes() {
        begin("16 set, by wishes");
        HandsPicture it = with("wish 3 wide A B 2; wish 4 wide A B 3; wish 2 wide A B 2;");
        dueSet(it, 20, 0, 3, 5, 5, 5, 5, 5);
        it.lay(0, 2, 0);
        dueSet(it, 20, 0, 2, 5, 5, 5, 5, 5);
        it = with("wish 9 right A B 2; right B A 0; wish 1 plumb A B;");
        due("firm ones first", it.about(0, 20, 0), 1);
        it = with("wish 9 where 6 tall A B 2;");
        dueSet(it, 6, 1, 5, 5, 5, 5, 5, 5);
        dueSet(it, 5, 1, 2, 4, 4, 4, 4, 4);
    }

    private static void setOfSeveral() {
        begin("16 set, of several");
        HandsPicture it = with("wish 1 wide A B 2; wish 1 wide B A 2; wide A C 1;");
        due("moved", it.about(0, 20, 1), 2);
        dueSet(it, 20, 0, 4, 6, 5, 5, 5, 5);
        it = with("wish 1 wide A B 2; wish 1 wide B A 2;");
        dueSet(it, 20, 0, 3, 5, 5, 5, 5, 5);
        it = with("wish 2 wide B A 2; wish 1 wide A B 2; wish 1 wide A B 2;");
        dueSet(it, 20, 0, 3, 5, 5, 5, 5, 5);
        it = with("tall A B 1; tall C B 1;");
        dueSet(it, 20, 1, 5, 6, 5, 5, 5, 5);
        it = with("tall B A 1;");
        dueSet(it, 20, 1, 5, 4, 5, 5, 5, 5);
    }

    private static void setAfterChanges() {
        begin("16 set, asked again after something changed");
        HandsPicture it = with("wide A B 3;");
        due("at first", it.set(0, 20, 0, 0), 2);
        it.move(0, 0, 7, 5);
        due("after move", it.set(0, 20, 0, 0), 2);
        due("after move", it.about(0, 20, 1), 5);
        it.move(0, 1, 10, 5);
        due("after another", it.set(0, 20, 0, 0), 7);
        it.back(0, 1);
        due("after back", it.set(0, 20, 0, 0), 2);
        it.lay(0, 0, 0);
        due("after lay", it.set(0, 20, 0, 0), 7);
        due("of another hand", it.set(1, 20, 0, 0), 2);
        it.join(1, 0);
        due("after join", it.set(1, 20, 0, 0), 7);
        type(it, "wide B A 1;");
        it.laws();
        due("after laws", it.set(1, 20, 0, 0), 6);
        due("on another sheet", it.set(1, 5, 0, 0), 4);
    }

    private static void setRefused() {
        begin("16 set, refused");
        HandsPicture it = with("wide A B 3; tall C D 3;");
        due("NONE by x", it.set(0, 3, 5, 1), NONE);
        due("it fits", it.set(0, 4, 0, 0), 0);
        it.lay(0, 0, 0);
        due("NONE by y", it.set(0, 3, 0, 0), NONE);
        it.lay(0, 1, 0);
        due("laws away", it.set(0, 3, 0, 0), 2);
        due("size 1", it.set(0, 1, 0, 0), BAD);
        due("size 21", it.set(0, 21, 0, 0), BAD);
        due("point 6", it.set(0, 3, 6, 0), BAD);
        due("point -1", it.set(0, 3, -1, 0), BAD);
        due("what 2", it.set(0, 3, 0, 2), BAD);
        due("what -1", it.set(0, 3, 0, -1), BAD);
        due("hand 3", it.set(3, 3, 0, 0), BAD);
        due("hand -1", it.set(-1, 3, 0, 0), BAD);
    }

    private static void aboutSet() {
        begin("17 about");
        HandsPicture it = with("wish 5 wide A B 2; level A B; wish 3 plumb A B; where 9 tall B C 1; wish 2 level C D;");
        due("weight", it.about(0, 20, 0), 7);
        due("moved", it.about(0, 20, 1), 2);
        due("holding", it.about(0, 20, 2), 1 | 2 | 16);
        due("weight on 8", it.about(0, 8, 0), 7);
        due("moved on 8", it.about(0, 8, 1), 4);
        due("holding on 8", it.about(0, 8, 2), 1 | 2 | 8 | 16);
        it.lay(0, 0, 0);
        due("weight without", it.about(0, 20, 0), 5);
        due("holding without", it.about(0, 20, 2), 2 | 4 | 16);
        due("what 3", it.about(0, 20, 3), BAD);
        due("what -1", it.about(0, 20, -1), BAD);
        due("size 1", it.about(0, 1, 0), BAD);
        due("size 21", it.about(0, 21, 0), BAD);
        due("hand 3", it.about(3, 20, 0), BAD);
        it = with("right A B 1; right B A 0;");
        for (int what = 0; what < 3; what++) due("none", it.about(0, 20, what), NONE);
        due("of no laws", new HandsPicture().about(0, 2, 1), 48);
    }

    private static void quarrels() {
        begin("18 quarrel");
        HandsPicture it = with("right A B 5; right B C 5; right C A 0; tall A B 2; under B A 0; wish 9 level A B; where 4 under C D 3;");
        due("the fewest", it.quarrel(0, 20, 0), 2);
        due("its set", it.quarrel(0, 20, 1), 8 | 16);
        it.lay(0, 4, 0);
        due("then three", it.quarrel(0, 20, 0), 3);
        due("its set", it.quarrel(0, 20, 1), 7);
        due("on 10: two", it.quarrel(0, 10, 0), 2);
        due("on 10: its set", it.quarrel(0, 10, 1), 3);
        due("on 3: one", it.quarrel(0, 3, 0), 1);
        due("on 3: the least", it.quarrel(0, 3, 1), 1);
        it.lay(0, 0, 0);
        due("none", it.quarrel(0, 20, 0), NONE);
        due("none", it.quarrel(0, 20, 1), NONE);
        due("where counts", it.quarrel(0, 3, 1), 2);
        it.lay(0, 1, 0);
        due("just the last", it.quarrel(0, 3, 1), 64);
        due("what 2", it.quarrel(0, 3, 2), BAD);
        due("what -1", it.quarrel(0, 3, -1), BAD);
        due("size 1", it.quarrel(0, 1, 0), BAD);
        due("size 21", it.quarrel(0, 21, 0), BAD);
        due("hand 3", it.quarrel(3, 3, 0), BAD);
        it = with("wide AB 1; wide BC 1; wide CD 1; wide DE 1; wide EF 1; right FA 0; tall AB 1; tall BC 1; tall AC 1;");
        due("the fewest of both axes", it.quarrel(0, 20, 1), 64 | 128 | 256);
        it.lay(0, 8, 0);
        due("six", it.quarrel(0, 20, 0), 6);
        due("six of them", it.quarrel(0, 20, 1), 63);
        it = with("level AB; plumb AB; tall BA 1; wide BA 2; wide AB 2;");
        due("of several the least", it.quarrel(0, 20, 1), 1 | 4);
    }

    private static void forcedLaws() {
        begin("19 forced");
        HandsPicture it = with("wide AB 2; wide BC 2; right AC 4; wish 1 right CA 0; right CD 0; wish 2 plumb AC; wish 1 wide AC 4;");
        due("an exact one", it.forced(0, 20, 0), 0);
        due("by two others", it.forced(0, 20, 2), 1);
        due("a wish that can't be", it.forced(0, 20, 3), 0);
        due("a free one", it.forced(0, 20, 4), 0);
        due("not as equal", it.forced(0, 20, 5), 0);
        due("a wish that is", it.forced(0, 20, 6), 1);
        it = with("right AB 3; right AB 2; where 10 level AB; level AB; under AB 0; under BA 0;");
        due("the lesser", it.forced(0, 20, 1), 1);
        due("the greater", it.forced(0, 20, 0), 0);
        due("does not count", it.forced(0, 10, 2), STATE);
        due("counts", it.forced(0, 9, 2), 1);
        due("both ways", it.forced(0, 20, 3), 1);
        it.lay(0, 5, 0);
        due("not on", it.forced(0, 20, 5), STATE);
        due("one way alone", it.forced(0, 20, 3), 0);
        due("the sheet binds none", with("wide AB 1; right CD 0;").forced(0, 2, 1), 0);
        due("nor its size", with("right AB 19; wish 1 right CD 0;").forced(0, 2, 1), 0);
        it = with("right AB 1; right BA 0; level CD; wish 1 tall EF 3;");
        due("the others hold", it.forced(0, 20, 0), 0);
        due("where others can't hold, on the other axis too", it.forced(0, 20, 2), 1);
        due("a wish too", it.forced(0, 20, 3), 1);
        due("law 4", it.forced(0, 20, 4), BAD);
        due("law -1", it.forced(0, 20, -1), BAD);
        due("size 1", it.forced(0, 1, 0), BAD);
        due("size 21", it.forced(0, 21, 0), BAD);
        due("hand 3", it.forced(3, 20, 0), BAD);
    }

    private static void knots() {
        begin("20 knot");
        HandsPicture it = with("wide AB 2; wish 3 level BC; where 5 plumb CD; tall AC 1; under FE 0;");
        due("knot", it.knot(0, 20, 0, 0), 7);
        due("of another of it", it.knot(0, 20, 2, 0), 7);
        due("free", it.knot(0, 20, 1, 1), 4);
        due("on 4", it.knot(0, 4, 3, 0), 15);
        due("free on 4", it.knot(0, 4, 3, 1), 5);
        due("by under", it.knot(0, 20, 4, 0), 48);
        due("by under, free", it.knot(0, 20, 5, 1), 4);
        due("alone", it.knot(0, 20, 3, 0), 8);
        due("alone, free", it.knot(0, 20, 3, 1), 2);
        it.lay(0, 1, 0);
        it.lay(0, 3, 0);
        due("without", it.knot(0, 20, 2, 0), 4);
        due("without, the other", it.knot(0, 20, 0, 1), 3);
        due("long chain", with("level EF; level DE; level CD; level BC; level AB;").knot(0, 2, 0, 0), 63);
        due("long chain, free", with("level EF; level DE; level CD; level BC; level AB;").knot(0, 2, 0, 1), 7);
        due("point 6", it.knot(0, 20, 6, 0), BAD);
        due("what 2", it.knot(0, 20, 0, 2), BAD);
        due("size 1", it.knot(0, 1, 0, 0), BAD);
        due("size 21", it.knot(0, 21, 0, 0), BAD);
        due("hand -1", it.knot(-1, 20, 0, 0), BAD);
    }

    private static void linesMade() {
        begin("21 line");
        HandsPicture it = new HandsPicture();
        due("to itself", it.line(3, 3), BAD);
        due("from 6", it.line(6, 0), BAD);
        due("from -1", it.line(-1, 0), BAD);
        due("to 6", it.line(0, 6), BAD);
        due("to -1", it.line(0, -1), BAD);
        for (int i = 0; i < 8; i++) due("line", it.line(i % 6, (i + 1) % 6), i);
        due("a ninth", it.line(0, 1), FULL);
        due("BAD ahead of FULL", it.line(1, 1), BAD);
        due("eight", it.count(2), 8);
    }

    private static void inks() {
        begin("22 ink");
        HandsPicture it = new HandsPicture();
        it.line(0, 1);
        it.move(0, 0, 2, 3);
        it.move(0, 1, 1, 9);
        int[] inks = {1, 7, 8, 4, 16};
        for (int kind = 0; kind < 5; kind++) due("kind " + kind, it.ink(kind, 0, 0), inks[kind]);
        int[] atOnce = {1, 1, 1, 1, 2};
        for (int kind = 0; kind < 5; kind++) due("kind " + kind, it.ink(kind, 0, 1), atOnce[kind]);
        it.move(0, 1, 2, 8);
        due("half of six", it.ink(3, 0, 0), 3);
        due("kind 5", it.ink(5, 0, 0), BAD);
        due("kind -1", it.ink(-1, 0, 0), BAD);
        due("line 1", it.ink(0, 1, 0), BAD);
        due("line -1", it.ink(0, -1, 0), BAD);
        due("hand 3", it.ink(0, 0, 3), BAD);
    }

    private static void dotsCounted() {
        begin("23 dots");
        HandsPicture it = new HandsPicture();
        due("of none", it.dots(0, -1), 0);
        it.line(0, 1);
        it.line(1, 0);
        it.line(2, 3);
        due("one place", it.dots(0, 0), 1);
        it.move(0, 0, 0, 0);
        it.move(0, 1, 4, 2);
        due("of one", it.dots(0, 0), 5);
        due("unlike ones", it.dots(0, -1), 6);
        it.move(0, 1, 19, 19);
        due("across", it.dots(0, 1), 20);
        due("the point is on it", it.dots(0, -1), 20);
        due("another hand", it.dots(1, -1), 1);
        it.move(0, 1, 2, 1);
        due("halves up, both ways one", it.dots(0, -1), 4);
        due("line 3", it.dots(0, 3), BAD);
        due("line -2", it.dots(0, -2), BAD);
        due("hand 3", it.dots(3, 0), BAD);
    }

    private static void meets() {
        begin("24 meet");
        HandsPicture it = new HandsPicture();
        due("of none", it.meet(0, 5, 5), 0);
        it.line(0, 1);
        it.line(2, 3);
        due("both", it.meet(0, 5, 5), 2);
        it.move(0, 0, 4, 3);
        it.move(0, 1, 2, 2);
        due("halves to the greater, going down", it.meet(0, 3, 3), 1);
        due("not to the lesser", it.meet(0, 3, 2), 0);
        due("first", it.meet(0, 4, 3), 1);
        due("last", it.meet(0, 2, 2), 1);
        due("the other", it.meet(0, 5, 5), 1);
        it.move(0, 1, 3, 0);
        due("steep: a third is not half", it.meet(0, 4, 2), 1);
        due("steep: two thirds are more", it.meet(0, 3, 1), 1);
        due("x 20", it.meet(0, 20, 0), BAD);
        due("x -1", it.meet(0, -1, 0), BAD);
        due("y 20", it.meet(0, 0, 20), BAD);
        due("y -1", it.meet(0, 0, -1), BAD);
        due("hand 3", it.meet(3, 0, 0), BAD);
    }

    private static void wordsMade() {
        begin("25 word");
        HandsPicture it = new HandsPicture();
        due("0", it.word(0), BAD);
        due("-1", it.word(-1), BAD);
        due("21", it.word(21), BAD);
        for (int i = 1; i <= 12; i++) due("word", it.word(i % 2 == 0 ? 1 : 20), i);
        due("a thirteenth", it.word(1), FULL);
        due("BAD ahead of FULL", it.word(0), BAD);
        due("twelve", it.count(3), 12);
    }

    private static HandsPicture withWords(int... widths) {
        HandsPicture it = new HandsPicture();
        for (int width : widths) it.word(width);
        return it;
    }

    private static void rowsBroken() {
        begin("26 rows");
        HandsPicture it = withWords(3, 2, 2, 5);
        due("one row", it.rows(15, 0), 1);
        due("the last row is free", it.rows(80, 1), 0);
        due("rows on 6", it.rows(6, 0), 3);
        due("squares on 6", it.rows(6, 1), 9 + 1);
        due("too narrow", it.rows(4, 0), NONE);
        due("too narrow", it.rows(4, 1), NONE);
        due("just wide enough", it.rows(5, 0), 3);
        due("box 0", it.rows(0, 0), BAD);
        due("box 81", it.rows(81, 0), BAD);
        due("what 2", it.rows(6, 2), BAD);
        due("what -1", it.rows(6, -1), BAD);
        it = withWords(20, 20);
        due("no blank fits", it.rows(40, 0), 2);
        due("a blank fits", it.rows(41, 0), 1);
        due("squares", it.rows(40, 1), 400);
    }

    private static void rowFirsts() {
        begin("27 row");
        HandsPicture it = withWords(1, 1, 1, 3);
        due("row 0", it.row(3, 0), 0);
        due("the first has the most", it.row(3, 1), 2);
        due("row 2", it.row(3, 2), 3);
        due("no row 3", it.row(3, 3), NONE);
        due("far", it.row(3, Integer.MAX_VALUE), NONE);
        due("too narrow", it.row(2, 0), NONE);
        due("i -1", it.row(3, -1), BAD);
        due("i -1 of a narrow box", it.row(2, -1), BAD);
        due("box 0", it.row(0, 0), BAD);
        due("box 81", it.row(81, 0), BAD);
        due("of no words", new HandsPicture().row(5, 0), NONE);
    }

    private static void counts() {
        begin("28 count");
        HandsPicture it = with("levelAB;plumbAB;");
        it.move(0, 0, 1, 1);
        it.move(0, 0, 1, 1);
        it.move(1, 0, 1, 1);
        it.line(0, 1);
        it.word(4);
        it.word(4);
        it.word(4);
        it.word(4);
        it.type(32, 5);
        int[] due = {2, 3, 1, 4, 5, 2};
        for (int what = 0; what < 6; what++) due("count " + what, it.count(what), due[what]);
        due("what 6", it.count(6), BAD);
        due("what -1", it.count(-1), BAD);
    }

    private static void traces() {
        begin("29 trace");
        HandsPicture it = new HandsPicture();
        it.line(0, 1);
        int[] bodies = {1, 11, 111, 1011, 10111};
        long sum = 0;
        for (int kind = 0; kind < 5; kind++) {
            it.ink(kind, 0, 0);
            sum += bodies[kind];
            due("kind " + kind, it.trace(), sum);
        }
        it.ink(5, 0, 0);
        it.ink(0, 1, 0);
        it.ink(0, 0, 3);
        it.dots(0, 0);
        due("refused ones leave none", it.trace(), sum);
    }

    private static void fullOfChanges() {
        begin("6, 7, 8: FULL");
        HandsPicture it = with("levelAB;");
        for (int i = 0; i < 58; i++) it.move(i % 2, 0, 1, 1);
        due("59th", it.lay(0, 0, 0), 58);
        due("60th", it.back(0, 0), 59);
        due("move", it.move(0, 0, 1, 1), FULL);
        due("lay", it.lay(0, 0, 1), FULL);
        due("back", it.back(0, 2), FULL);
        due("STATE ahead of FULL", it.back(0, 0), STATE);
        due("BAD ahead of FULL", it.move(0, 0, 20, 1), BAD);
        due("BAD ahead of FULL", it.lay(0, 1, 1), BAD);
        due("BAD ahead of FULL", it.back(0, 1), BAD);
        due("sixty", it.count(1), 60);
        due("all are seen", it.join(2, 0) + it.join(2, 1), 60);
        due("the last too", it.sees(2, 59), 1);
    }
}
