/** The boundaries that the document names for settings (promises 16 to 20), each at both sides. */
public final class SettingsEdgeTest {
    private static final int BAD = HandsPicture.BAD, STATE = HandsPicture.STATE, NONE = HandsPicture.NONE;
    private static final Checks checks = new Checks("SettingsEdgeTest");

    public static void main(String[] args) {
        sheetSizes();
        valuesOfTheSheet();
        justFits();
        chainsJustFit();
        noneOfAll();
        badAheadOfNone();
        firmThatAreOn();
        whereCounts();
        whereCountsNowhere();
        whereInQuarrels();
        wishesByWeight();
        wishesBehindFirm();
        wishesThatAreOnAndCount();
        sixWishes();
        weightAheadOfMoved();
        leastTogether();
        firstByX();
        firstByY();
        firstOfUnlikeWishes();
        asOfTheLastStamp();
        movedAdded();
        holdingThere();
        quarrelOfOne();
        quarrelOfSize();
        quarrelOfTwo();
        quarrelOfMany();
        quarrelOfFirmAlone();
        quarrelLeastSet();
        quarrelWithoutTheLast();
        forcedByNumbersWhatever();
        forcedJust();
        forcedByFirmAlone();
        forcedByOthers();
        forcedWhereNoneCanHold();
        forcedStates();
        knotAlone();
        knotByLaws();
        knotFree();
        knotOfThoseThatCount();
        lawsReadOverOthers();
        checks.end();
    }

    private static void dueSet(HandsPicture it, int size, int what, int... values) {
        for (int p = 0; p < values.length; p++) {
            checks.due("set " + size + " " + p + " " + what, it.set(0, size, p, what), values[p]);
        }
    }

    private static void dueQuarrel(HandsPicture it, int size, int many, int set) {
        checks.due("how many on " + size, it.quarrel(0, size, 0), many);
        checks.due("the set on " + size, it.quarrel(0, size, 1), set);
    }

    private static void sheetSizes() {
        checks.sentence("a SHEET of a size S (2 .. 20)");
        HandsPicture it = Checks.with("right A B 1;");
        for (int size : new int[] {1, 0, -1, 21, 22, Integer.MIN_VALUE, Integer.MAX_VALUE}) {
            checks.due("set on " + size, it.set(0, size, 0, 0), BAD);
            checks.due("about on " + size, it.about(0, size, 0), BAD);
            checks.due("quarrel on " + size, it.quarrel(0, size, 0), BAD);
            checks.due("forced on " + size, it.forced(0, size, 0), BAD);
            checks.due("knot on " + size, it.knot(0, size, 0, 0), BAD);
        }
        for (int size = 2; size <= 20; size++) {
            checks.due("set on " + size, it.set(0, size, 0, 0), Math.min(4, size - 2));
            checks.due("about on " + size, it.about(0, size, 2), 1);
            checks.due("quarrel on " + size, it.quarrel(0, size, 0), NONE);
            checks.due("forced on " + size, it.forced(0, size, 0), 0);
            checks.due("knot on " + size, it.knot(0, size, 0, 0), 3);
        }
    }

    private static void valuesOfTheSheet() {
        checks.sentence("numbers 0 .. S - 1 for all x, y");
        HandsPicture it = new HandsPicture();
        it.move(0, 0, 19, 0);
        it.move(0, 5, 0, 19);
        for (int size = 2; size <= 20; size++) {
            int middle = Math.min(5, size - 1);
            dueSet(it, size, 0, size - 1, middle, middle, middle, middle, 0);
            dueSet(it, size, 1, 0, middle, middle, middle, middle, size - 1);
        }
    }

    private static void justFits() {
        checks.sentence("all FIRM LAWS hold on numbers 0 .. S - 1, or NONE");
        for (int size = 2; size <= 20; size++) {
            for (String word : new String[] {"right", "wide", "under", "tall"}) {
                int what = word.equals("right") || word.equals("wide") ? 0 : 1;
                HandsPicture it = Checks.with(word + " F C " + (size - 1) + ";");
                checks.due("the lowest on " + size, it.set(0, size, 5, what), 0);
                checks.due("the highest on " + size, it.set(0, size, 2, what), size - 1);
                if (size > 2) checks.due("too small by one", it.set(0, size - 1, 5, what), NONE);
            }
        }
    }

    private static void chainsJustFit() {
        checks.sentence("all FIRM LAWS hold together, or NONE");
        HandsPicture it = Checks.with("right A B 4; wide B C 4; right C D 4; wide D E 4; right E F 3;");
        dueSet(it, 20, 0, 0, 4, 8, 12, 16, 19);
        checks.due("too small by one", it.set(0, 19, 0, 0), NONE);
        it = Checks.with("tall A B 3; tall B C 2; tall A C 5; under A C 5;");
        dueSet(it, 6, 1, 0, 3, 5, 5, 5, 5);
        checks.due("too small by one", it.set(0, 5, 0, 1), NONE);
        checks.due("apart by one", Checks.with("tall A B 3; tall B C 2; tall A C 6;").set(0, 20, 0, 0), NONE);
        checks.due("beyond by one", Checks.with("tall A B 3; tall B C 2; under A C 6;").set(0, 20, 0, 0), NONE);
    }

    private static void noneOfAll() {
        checks.sentence("NONE: there is no such setting");
        for (String laws : new String[] {"right A B 1; right B A 0;", "under A B 1; under B A 0;"}) {
            HandsPicture it = Checks.with(laws);
            for (int point = 0; point < 6; point++) {
                checks.due("x", it.set(0, 20, point, 0), NONE);
                checks.due("y", it.set(0, 20, point, 1), NONE);
            }
            for (int what = 0; what < 3; what++) checks.due("about " + what, it.about(0, 20, what), NONE);
            it.lay(0, 1, 0);
            checks.need("one taken AWAY", it.set(0, 20, 0, 0) >= 0);
            checks.due("for another HAND", it.set(1, 20, 0, 0), NONE);
        }
    }

    private static void badAheadOfNone() {
        checks.sentence("BAD, where there is NONE, too");
        HandsPicture it = Checks.with("right A B 1; right B A 0;");
        checks.due("hand -1", it.set(-1, 20, 0, 0), BAD);
        checks.due("hand 3", it.set(3, 20, 0, 0), BAD);
        checks.due("point -1", it.set(0, 20, -1, 0), BAD);
        checks.due("point 6", it.set(0, 20, 6, 0), BAD);
        checks.due("what -1", it.set(0, 20, 0, -1), BAD);
        checks.due("what 2", it.set(0, 20, 0, 2), BAD);
        checks.due("about -1", it.about(0, 20, -1), BAD);
        checks.due("about 3", it.about(0, 20, 3), BAD);
        checks.due("about, hand 3", it.about(3, 20, 0), BAD);
        it = new HandsPicture();
        checks.due("quarrel -1", it.quarrel(0, 20, -1), BAD);
        checks.due("quarrel 2", it.quarrel(0, 20, 2), BAD);
        checks.due("quarrel, hand -1", it.quarrel(-1, 20, 0), BAD);
    }

    private static void firmThatAreOn() {
        checks.sentence("all FIRM LAWS that are ON");
        HandsPicture it = Checks.with("wide A B 7; wide A B 8;");
        checks.due("both ON", it.set(0, 20, 0, 0), NONE);
        it.lay(0, 0, 0);
        dueSet(it, 20, 0, 0, 8);
        it.lay(0, 0, 1);
        checks.due("laid again", it.set(0, 20, 0, 0), NONE);
        it.back(0, 1);
        dueSet(it, 20, 0, 0, 8);
        it.lay(0, 1, 0);
        dueSet(it, 20, 0, 5, 5);
    }

    private static void whereCounts() {
        checks.sentence("A LAW with where holds just on SHEETS of sizes less than that");
        for (int where = 3; where <= 20; where++) {
            HandsPicture it = Checks.with("where " + where + " wide A B 1;");
            for (int size = where - 1; size <= Math.min(20, where + 1); size++) {
                boolean counts = size < where;
                int apart = it.set(0, size, 1, 0) - it.set(0, size, 0, 0);
                checks.due("where " + where + ", apart on " + size, apart, counts ? 1 : 0);
                checks.due("where " + where + ", holds on " + size, it.about(0, size, 2), counts ? 1 : 0);
                checks.due("where " + where + ", knot on " + size, it.knot(0, size, 0, 0), counts ? 3 : 1);
                checks.due("where " + where + ", free on " + size, it.knot(0, size, 0, 1), counts ? 3 : 2);
                checks.due("where " + where + ", forced on " + size, it.forced(0, size, 0), counts ? 0 : STATE);
            }
            checks.due("on the least SHEET", it.about(0, 2, 2), 1);
        }
    }

    private static void whereCountsNowhere() {
        checks.sentence("where 2: no SHEET is less; without where a LAW COUNTS on all");
        HandsPicture it = Checks.with("where 2 wide A B 1; level A B;");
        for (int size = 2; size <= 20; size++) {
            checks.due("holds on " + size, it.about(0, size, 2), 2);
            checks.due("forced on " + size, it.forced(0, size, 0), STATE);
            checks.due("forced on " + size, it.forced(0, size, 1), 0);
        }
        checks.due("it is ON still", it.on(0, 0), 3);
    }

    private static void whereInQuarrels() {
        checks.sentence("FIRM LAWS that COUNT, of QUARRELS");
        for (int where = 3; where <= 20; where++) {
            HandsPicture it = Checks.with("level A B; where " + where + " tall A B 1;");
            dueQuarrel(it, where - 1, 2, 3);
            dueQuarrel(it, where, NONE, NONE);
        }
    }

    private static void wishesByWeight() {
        checks.sentence("those wishes hold whose WEIGHTS together are the most that can be");
        HandsPicture it = Checks.with("wish 9 plumb A B; wish 4 wide A B 1; wish 4 wide A B 1;");
        checks.due("9 of 9, 8", it.about(0, 20, 0), 9);
        checks.due("holding", it.about(0, 20, 2), 1);
        it = Checks.with("wish 9 plumb A B; wish 5 wide A B 1; wish 5 wide A B 1;");
        checks.due("10 of 9, 10", it.about(0, 20, 0), 10);
        checks.due("holding", it.about(0, 20, 2), 6);
        it = Checks.with("wish 8 plumb A B; wish 4 wide A B 1; wish 4 wide A B 1;");
        checks.due("8 of 8, 8", it.about(0, 20, 0), 8);
        checks.due("the less moved", it.about(0, 20, 2), 1);
        it.move(0, 1, 6, 5);
        checks.due("8 of 8, 8", it.about(0, 20, 0), 8);
        checks.due("now the others", it.about(0, 20, 2), 6);
        it = Checks.with("wish 1 tall A B 3; wish 1 tall B C 3; wish 1 tall C A 3;");
        checks.due("two of three", it.about(0, 20, 0), 2);
        checks.due("one fits just", it.about(0, 4, 0), 1);
        checks.due("none fits", it.about(0, 3, 0), 0);
        checks.due("none holds", it.about(0, 3, 2), 0);
    }

    private static void wishesBehindFirm() {
        checks.sentence("all FIRM LAWS hold, whatever wishes weigh");
        HandsPicture it = Checks.with("wish 9 wide A B 1; plumb A B; wish 9 right A B 1;");
        checks.due("weight", it.about(0, 20, 0), 0);
        checks.due("holding", it.about(0, 20, 2), 2);
        dueSet(it, 20, 0, 5, 5, 5, 5, 5, 5);
        it.lay(0, 1, 0);
        checks.due("weight without", it.about(0, 20, 0), 18);
        checks.due("a wish that can't hold is no NONE", Checks.with("wish 9 wide A B 19;").set(0, 2, 0, 0), 1);
    }

    private static void wishesThatAreOnAndCount() {
        checks.sentence("wishes that are ON and COUNT");
        HandsPicture it = Checks.with("wish 3 where 10 wide A B 1; wish 2 plumb A B;");
        checks.due("on 9", it.about(0, 9, 0), 3);
        checks.due("on 10", it.about(0, 10, 0), 2);
        it.lay(0, 0, 0);
        checks.due("AWAY, on 9", it.about(0, 9, 0), 2);
        it.lay(0, 1, 0);
        checks.due("none", it.about(0, 9, 0), 0);
        checks.due("none holds", it.about(0, 9, 2), 0);
    }

    private static void sixWishes() {
        checks.sentence("Six wishes, of WEIGHT 9 each");
        HandsPicture it = Checks.with("wish 9 wide AB 1; wish 9 wide BC 1; wish 9 wide CD 1; wish 9 tall AB 1;"
                + " wish 9 tall BC 1; wish 9 wide AD 3; right AB 0; right BC 0; right CD 0; under AB 0; under BC 0;"
                + " under CD 0;");
        checks.due("all", it.about(0, 20, 0), 54);
        checks.due("all hold", it.about(0, 20, 2), 4095);
        checks.due("just fit", it.about(0, 4, 0), 54);
        checks.due("on 3 not all", it.about(0, 3, 0), 36);
        checks.due("on 2 fewer still", it.about(0, 2, 0), 18);
        for (String word : new String[] {"wide", "tall"}) {
            String links = "wish 9 # AB 1; wish 9 # BC 1; wish 9 # CD 1; wish 9 # DE 1; wish 9 # EF 1; wish 9 # AF 5;";
            it = Checks.with(links.replace("#", word));
            checks.due("all of one axis", it.about(0, 20, 0), 54);
            checks.due("just fit", it.about(0, 6, 0), 54);
            checks.due("on 5 four of them", it.about(0, 5, 0), 36);
        }
    }

    private static void weightAheadOfMoved() {
        checks.sentence("wishes by WEIGHT; of these settings the least moved");
        HandsPicture it = Checks.with("wish 1 wide A B 19;");
        dueSet(it, 20, 0, 0, 19, 5, 5, 5, 5);
        checks.due("moved", it.about(0, 20, 1), 19);
        dueSet(it, 19, 0, 5, 5, 5, 5, 5, 5);
        checks.due("moved", it.about(0, 19, 1), 0);
    }

    private static void leastTogether() {
        checks.sentence("what x, y differ, all added, is the least");
        HandsPicture it = Checks.with("right A B 0; right C B 0;");
        it.move(0, 0, 9, 5);
        it.move(0, 2, 9, 5);
        dueSet(it, 20, 0, 9, 9, 9, 5, 5, 5);
        checks.due("two against one", it.about(0, 20, 1), 4);
        it = Checks.with("right B A 0; right B C 0;");
        it.move(0, 0, 2, 5);
        it.move(0, 2, 2, 5);
        dueSet(it, 20, 0, 2, 2, 2, 5, 5, 5);
        checks.due("two against one", it.about(0, 20, 1), 3);
        it = Checks.with("level A B; level B C;");
        it.move(0, 0, 5, 2);
        it.move(0, 1, 5, 15);
        it.move(0, 2, 5, 9);
        dueSet(it, 20, 1, 9, 9, 9, 5, 5, 5);
        checks.due("the one in the middle", it.about(0, 20, 1), 13);
        dueSet(it, 8, 1, 7, 7, 7, 5, 5, 5);
        checks.due("as near as the SHEET goes", it.about(0, 8, 1), 15);
    }

    private static void firstByX() {
        checks.sentence("of several the first by x of POINT 0, 1, .., 5");
        dueSet(Checks.with("wide A B 1;"), 20, 0, 4, 5, 5, 5, 5, 5);
        dueSet(Checks.with("wide B A 1;"), 20, 0, 5, 4, 5, 5, 5, 5);
        dueSet(Checks.with("wide E F 1;"), 20, 0, 5, 5, 5, 5, 4, 5);
        dueSet(Checks.with("wide F E 1;"), 20, 0, 5, 5, 5, 5, 5, 4);
        dueSet(Checks.with("wide C B 4;"), 20, 0, 5, 5, 1, 5, 5, 5);
        HandsPicture it = Checks.with("plumb A F;");
        it.move(0, 0, 8, 5);
        it.move(0, 5, 3, 5);
        dueSet(it, 20, 0, 3, 5, 5, 5, 5, 3);
        checks.due("moved", it.about(0, 20, 1), 5);
    }

    private static void firstByY() {
        checks.sentence("of several the first by x, then by y likewise");
        dueSet(Checks.with("tall A B 1;"), 20, 1, 4, 5, 5, 5, 5, 5);
        dueSet(Checks.with("tall B A 1;"), 20, 1, 5, 4, 5, 5, 5, 5);
        HandsPicture it = Checks.with("tall E F 1; wide D E 1; level B C;");
        it.move(0, 1, 5, 9);
        dueSet(it, 20, 0, 5, 5, 5, 4, 5, 5);
        dueSet(it, 20, 1, 5, 5, 5, 5, 4, 5);
        checks.due("moved", it.about(0, 20, 1), 6);
    }

    private static void firstOfUnlikeWishes() {
        checks.sentence("of several the first, wishes being unlike");
        HandsPicture it = Checks.with("wish 1 wide B C 2; wish 1 wide C B 2;");
        dueSet(it, 20, 0, 5, 3, 5, 5, 5, 5);
        it = Checks.with("wish 1 wide C B 2; wish 1 wide B C 2;");
        dueSet(it, 20, 0, 5, 3, 5, 5, 5, 5);
        it = Checks.with("wish 1 tall E F 2; wish 1 tall F E 2;");
        dueSet(it, 20, 1, 5, 5, 5, 5, 3, 5);
        it.move(0, 4, 5, 6);
        dueSet(it, 20, 1, 5, 5, 5, 5, 6, 4);
    }

    private static void asOfTheLastStamp() {
        checks.sentence("THE PICTURE of a HAND, as of the last STAMP");
        HandsPicture it = Checks.with("wide A B 1;");
        it.move(0, 0, 9, 5);
        it.move(0, 1, 10, 5);
        dueSet(it, 20, 0, 9, 10);
        it.back(0, 0);
        dueSet(it, 20, 0, 5, 6);
        checks.due("another HAND", it.set(1, 20, 0, 0), 4);
        it.join(1, 0);
        checks.due("it JOINED", it.set(1, 20, 0, 0), 5);
    }

    private static void movedAdded() {
        checks.sentence("what x, y differ from where POINTS STAND, all added");
        HandsPicture it = new HandsPicture();
        checks.due("on 6", it.about(0, 6, 1), 0);
        checks.due("on 5", it.about(0, 5, 1), 12);
        checks.due("on 2", it.about(0, 2, 1), 48);
        for (int point = 0; point < 6; point++) it.move(0, point, 19, 19);
        checks.due("on 20", it.about(0, 20, 1), 0);
        checks.due("on 19", it.about(0, 19, 1), 12);
        checks.due("on 2", it.about(0, 2, 1), 216);
    }

    private static void holdingThere() {
        checks.sentence("LAWS that are ON, COUNT and hold there, as bits");
        HandsPicture it = Checks.with("right A B 0; wish 1 right A B 1; wish 2 plumb A B; where 9 level A B;"
                + " level C D; wish 1 under A B 0;");
        checks.due("on 20", it.about(0, 20, 2), 1 | 4 | 16 | 32);
        checks.due("on 9", it.about(0, 9, 2), 1 | 4 | 16 | 32);
        checks.due("on 8", it.about(0, 8, 2), 1 | 4 | 8 | 16 | 32);
        it.lay(0, 4, 0);
        checks.due("AWAY, though it would hold", it.about(0, 8, 2), 1 | 4 | 8 | 32);
        checks.due("no LAWS", new HandsPicture().about(0, 20, 2), 0);
        checks.due("the twelfth", Checks.with("levelAB;".repeat(12)).about(0, 20, 2), 4095);
    }

    private static void quarrelOfOne() {
        checks.sentence("QUARREL: the fewest that can't hold together on the SHEET: one");
        for (String word : new String[] {"right", "wide", "under", "tall"}) {
            for (int size = 2; size <= 19; size++) {
                HandsPicture it = Checks.with(word + " A B " + (size - 1) + "; " + word + " C D " + size + ";");
                dueQuarrel(it, size, 1, 2);
                dueQuarrel(it, size + 1, NONE, NONE);
            }
        }
        dueQuarrel(Checks.with("wide F A 19;"), 20, NONE, NONE);
        dueQuarrel(new HandsPicture(), 2, NONE, NONE);
    }

    private static void quarrelOfSize() {
        checks.sentence("QUARREL: that can't hold together on the SHEET");
        HandsPicture it = Checks.with("right A B 9; wide B C 10; under A B 1;");
        dueQuarrel(it, 20, NONE, NONE);
        dueQuarrel(it, 19, 2, 3);
        dueQuarrel(it, 11, 2, 3);
        dueQuarrel(it, 10, 1, 2);
        dueQuarrel(it, 9, 1, 1);
        it = Checks.with("right AB 4; right BC 4; right CD 4; right DE 4; right EF 4;");
        dueQuarrel(it, 20, 5, 31);
        dueQuarrel(it, 17, 5, 31);
        dueQuarrel(it, 16, 4, 15);
        it = Checks.with("right AB 4; right BC 4; right CD 4; right DE 4; right EF 3;");
        dueQuarrel(it, 20, NONE, NONE);
        dueQuarrel(it, 19, 5, 31);
        dueQuarrel(Checks.with("wide B A 10; wide C A 3; wide C D 18; right D E 4;"), 20, 2, 12);
    }

    private static void quarrelOfTwo() {
        checks.sentence("QUARREL: the fewest that can't hold together: two");
        dueQuarrel(Checks.with("right A B 0; right B A 0;"), 20, NONE, NONE);
        dueQuarrel(Checks.with("right A B 1; right B A 0;"), 20, 2, 3);
        dueQuarrel(Checks.with("plumb A B; wide A B 0;"), 20, NONE, NONE);
        dueQuarrel(Checks.with("plumb A B; wide A B 1;"), 20, 2, 3);
        dueQuarrel(Checks.with("level A B; tall B A 0; under A B 0;"), 20, NONE, NONE);
        dueQuarrel(Checks.with("level A B; tall B A 0; under A B 1;"), 20, 2, 5);
        dueQuarrel(Checks.with("wide A B 5; right A B 5;"), 20, NONE, NONE);
        dueQuarrel(Checks.with("wide A B 5; right A B 6;"), 20, 2, 3);
        dueQuarrel(Checks.with("wide A B 5; tall A B 6;"), 20, NONE, NONE);
    }

    private static void quarrelOfMany() {
        checks.sentence("QUARREL: as many as six");
        HandsPicture it = Checks.with("wide AB 1; wide BC 1; wide CD 1; wide DE 1; wide EF 1; right FA 0;");
        dueQuarrel(it, 20, 6, 63);
        it = Checks.with("plumb AB; plumb BC; plumb CD; plumb DE; plumb EF; right FA 0;");
        dueQuarrel(it, 20, NONE, NONE);
        it = Checks.with("plumb AB; plumb BC; plumb CD; plumb DE; plumb EF; right FA 1;");
        dueQuarrel(it, 20, 6, 63);
        it = Checks.with("level AB; level BC; level CD; level DE; level EF; under FA 1; level AB; level BC; level CD;"
                + " level DE; level EF; under AF 1;");
        dueQuarrel(it, 20, 2, 2048 | 32);
        it.lay(0, 11, 0);
        dueQuarrel(it, 20, 6, 63);
        it.lay(0, 0, 0);
        dueQuarrel(it, 20, 6, 62 | 64);
    }

    private static void quarrelOfFirmAlone() {
        checks.sentence("QUARREL: of FIRM LAWS that are ON");
        dueQuarrel(Checks.with("wish 9 right A B 1; right B A 0;"), 20, NONE, NONE);
        dueQuarrel(Checks.with("wish 9 right A B 19;"), 2, NONE, NONE);
        HandsPicture it = Checks.with("right A B 1; right B A 0;");
        it.lay(0, 0, 0);
        dueQuarrel(it, 20, NONE, NONE);
        checks.due("another HAND's", it.quarrel(1, 20, 1), 3);
    }

    private static void quarrelLeastSet() {
        checks.sentence("QUARREL: of several the least set");
        dueQuarrel(Checks.with("right A B 1; right B A 0; right A B 1;"), 20, 2, 3);
        dueQuarrel(Checks.with("wide A B 1; wide C D 1; wide D C 1; level A B; level A C; wide B A 1;"), 20, 2, 6);
        dueQuarrel(Checks.with("wide A B 1; tall C D 1; tall D C 1; wide B A 1;"), 20, 2, 6);
        dueQuarrel(Checks.with("tall A B 1; wide C D 1; tall B A 1; wide D C 1;"), 20, 2, 5);
        dueQuarrel(Checks.with("right AB 1; right BC 1; right CA 1; tall DE 19; tall EF 1;"), 20, 2, 24);
        dueQuarrel(Checks.with("tall AB 5; wide AB 5; wide BC 5;"), 5, 1, 1);
        dueQuarrel(Checks.with("wide AB 4; tall AB 5; wide BC 5;"), 5, 1, 2);
    }

    private static void quarrelWithoutTheLast() {
        checks.sentence("QUARREL: the fewest, of twelve LAWS");
        String ten = "level AB; level BC; level CD; level DE; level EF; plumb CD; plumb DE; plumb EF; right CD 0; right DE 0;";
        dueQuarrel(Checks.with("right A B 1; right B A 0;" + ten), 20, 2, 3);
        dueQuarrel(Checks.with(ten + "right A B 1; right B A 0;"), 20, 2, 1024 | 2048);
        dueQuarrel(Checks.with("right A B 1;" + ten + "right B A 0;"), 20, 2, 1 | 2048);
        dueQuarrel(Checks.with("right A B 0;" + ten + "right B A 0;"), 20, NONE, NONE);
    }

    private static void forcedByNumbersWhatever() {
        checks.sentence("FORCED: of numbers whatever, below 0, beyond the SHEET too");
        HandsPicture it = Checks.with("wide A B 1; wish 1 right A C 0; wish 1 right C B 0; wish 1 right C D 0;");
        checks.due("below 0", it.forced(0, 2, 1), 0);
        checks.due("beyond", it.forced(0, 2, 2), 0);
        checks.due("neither", it.forced(0, 2, 3), 0);
        it = Checks.with("right A B 19; wish 1 level C D; right A B 18;");
        checks.due("what the SHEET is too small for can hold", it.forced(0, 2, 1), 0);
        checks.due("and forces", it.forced(0, 2, 2), 1);
        it = Checks.with("right AB 19; right BC 19; right CD 19; right DE 19; right EF 19; wish 1 right AF 19;"
                + " wish 1 right FA 0;");
        checks.due("far beyond", it.forced(0, 20, 5), 1);
        checks.due("far beyond, the other way", it.forced(0, 20, 6), 0);
    }

    private static void forcedJust() {
        checks.sentence("FORCED, if it holds in all settings");
        HandsPicture it = Checks.with("right AB 2; right BC 3; wish 1 right AC 5; wish 1 right AC 6; wish 1 right AC 4;"
                + " wish 1 wide AC 5;");
        checks.due("5 of 2, 3", it.forced(0, 20, 2), 1);
        checks.due("6 of 2, 3", it.forced(0, 20, 3), 0);
        checks.due("4 of 2, 3", it.forced(0, 20, 4), 1);
        checks.due("just 5", it.forced(0, 20, 5), 0);
        it = Checks.with("tall AB 2; tall BC 3; wish 1 tall AC 5; wish 1 tall AC 6; wish 1 under AC 5; wish 1 under AC 6;"
                + " wish 1 under CA 0;");
        int[] due = {1, 0, 1, 0, 0};
        for (int i = 0; i < 5; i++) checks.due("law " + (2 + i), it.forced(0, 20, 2 + i), due[i]);
        it = Checks.with("under A B 0; under B A 0; wish 1 level A B; wish 1 tall B A 0; wish 1 tall A B 1; wish 1 plumb A B;");
        int[] level = {1, 1, 0, 0};
        for (int i = 0; i < 4; i++) checks.due("law " + (2 + i), it.forced(0, 20, 2 + i), level[i]);
    }

    private static void forcedByFirmAlone() {
        checks.sentence("FORCED: all other FIRM ones that are ON and COUNT");
        HandsPicture it = Checks.with("wish 9 wide A B 1; right A B 1;");
        checks.due("a wish forces none", it.forced(0, 20, 1), 0);
        it = Checks.with("where 5 wide A B 1; right A B 1;");
        checks.due("one that COUNTS", it.forced(0, 4, 1), 1);
        checks.due("one that does not", it.forced(0, 5, 1), 0);
        it = Checks.with("wide A B 1; right A B 1;");
        checks.due("one that is ON", it.forced(0, 20, 1), 1);
        it.lay(0, 0, 0);
        checks.due("one that is AWAY", it.forced(0, 20, 1), 0);
        checks.due("for another HAND", it.forced(1, 20, 1), 1);
    }

    private static void forcedByOthers() {
        checks.sentence("FORCED: by all OTHER ones");
        checks.due("alone", Checks.with("wide A B 1;").forced(0, 20, 0), 0);
        checks.due("alone, right 0", Checks.with("right A B 0;").forced(0, 20, 0), 0);
        HandsPicture it = Checks.with("wide A B 1; wide A B 1;");
        checks.due("twice, the first", it.forced(0, 20, 0), 1);
        checks.due("twice, the second", it.forced(0, 20, 1), 1);
    }

    private static void forcedWhereNoneCanHold() {
        checks.sentence("FORCED: (Where these can't hold together, each is.)");
        HandsPicture it = Checks.with("right A B 1; right B A 0; level C D; wish 1 wide E F 3;");
        checks.due("the others can", it.forced(0, 20, 0), 0);
        checks.due("the others can", it.forced(0, 20, 1), 0);
        checks.due("of the other axis", it.forced(0, 20, 2), 1);
        checks.due("a wish", it.forced(0, 20, 3), 1);
        it = Checks.with("right A B 1; right B A 0; right A B 1;");
        checks.due("without the first they can't", it.forced(0, 20, 0), 1);
        checks.due("without the second they can", it.forced(0, 20, 1), 0);
        checks.due("without the third they can't", it.forced(0, 20, 2), 1);
    }

    private static void forcedStates() {
        checks.sentence("STATE: it is not ON, or does not COUNT; BAD ahead of it");
        HandsPicture it = Checks.with("where 5 level A B; level A B;");
        checks.due("COUNTS", it.forced(0, 4, 0), 1);
        checks.due("does not", it.forced(0, 5, 0), STATE);
        it.lay(0, 1, 0);
        checks.due("not ON", it.forced(0, 4, 1), STATE);
        checks.due("ON for another", it.forced(1, 4, 1), 1);
        checks.due("the HAND is BAD", it.forced(3, 5, 0), BAD);
        checks.due("the size is BAD", it.forced(0, 21, 0), BAD);
        checks.due("the LAW is BAD", it.forced(0, 5, 2), BAD);
        checks.due("below 0", it.forced(0, 5, -1), BAD);
    }

    private static void knotAlone() {
        checks.sentence("KNOT of a POINT: it, and all that come of it by LEANING");
        HandsPicture it = Checks.with("level B C;");
        for (int point = 0; point < 6; point++) {
            boolean alone = point != 1 && point != 2;
            checks.due("knot of " + point, it.knot(0, 20, point, 0), alone ? 1 << point : 6);
            checks.due("free " + point, it.knot(0, 20, point, 1), alone ? 2 : 3);
        }
        checks.due("point -1", it.knot(0, 20, -1, 0), BAD);
        checks.due("point 6", it.knot(0, 20, 6, 0), BAD);
        checks.due("what -1", it.knot(0, 20, 0, -1), BAD);
        checks.due("what 2", it.knot(0, 20, 0, 2), BAD);
        checks.due("hand 3", it.knot(3, 20, 0, 0), BAD);
    }

    private static void knotByLaws() {
        checks.sentence("LEANS ON: some LAW that is ON and COUNTS is of both; again and again");
        String[] words = {"level A B;", "plumb A B;", "right A B 3;", "under A B 3;", "wide A B 3;", "tall A B 3;"};
        for (String word : words) {
            checks.due(word, Checks.with(word).knot(0, 2, 0, 0), 3);
            checks.due(word + " of B", Checks.with(word).knot(0, 2, 1, 0), 3);
            checks.due("wish " + word, Checks.with("wish 1 " + word).knot(0, 2, 0, 0), 3);
        }
        HandsPicture it = Checks.with("level E F; plumb D E; right C D 0; under B C 0; wish 1 wide A B 1;");
        for (int point = 0; point < 6; point++) checks.due("all", it.knot(0, 20, point, 0), 63);
        it.lay(0, 2, 0);
        for (int point = 0; point < 6; point++) checks.due("parted", it.knot(0, 20, point, 0), point < 3 ? 7 : 56);
    }

    private static void knotFree() {
        checks.sentence("FREE: heaps by plumb, wide alone, and heaps by level, tall alone, added");
        int[] due = {3, 3, 4, 4, 3, 3};
        String[] words = {"level A B;", "plumb A B;", "right A B 3;", "under A B 3;", "wide A B 3;", "tall A B 3;"};
        for (int i = 0; i < 6; i++) {
            checks.due(words[i], Checks.with(words[i]).knot(0, 20, 1, 1), due[i]);
            checks.due("wish " + words[i], Checks.with("wish 1 " + words[i]).knot(0, 20, 1, 1), 4);
        }
        checks.due("as free as can be", Checks.with("right AB0;right BC0;right CD0;right DE0;right EF0;").knot(0, 20, 0, 1), 12);
        checks.due("as little as can be", Checks.with("levelAB;tallBC1;levelCD;levelDE;levelEF;"
                + "plumbAB;wideBC2;plumbCD;plumbDE;plumbEF;").knot(0, 20, 3, 1), 2);
        checks.due("a ring", Checks.with("levelAB;levelBC;levelCA;").knot(0, 20, 2, 1), 4);
        checks.due("twice", Checks.with("levelAB;tallAB0;plumbAB;").knot(0, 20, 0, 1), 2);
        checks.due("just its own POINTS", Checks.with("levelAB;levelCD;levelEF;").knot(0, 20, 4, 1), 3);
    }

    private static void knotOfThoseThatCount() {
        checks.sentence("FREE: FIRM ones that are ON and COUNT");
        HandsPicture it = Checks.with("right A B 0; where 9 plumb A B; level A B;");
        checks.due("on 8", it.knot(0, 8, 0, 1), 2);
        checks.due("on 9", it.knot(0, 9, 0, 1), 3);
        it.lay(0, 2, 0);
        checks.due("AWAY", it.knot(0, 9, 0, 1), 4);
        checks.due("for another HAND", it.knot(1, 9, 0, 1), 3);
    }

    /** Thrice, and five readings each time, for rows of LAWS may be used again by turns. */
    private static void lawsReadOverOthers() {
        checks.sentence("THE TEXT becomes THE LAWS: nothing of those that stood there before is left");
        HandsPicture it = Checks.with("right A B 1; right B A 0; plumb C D;");
        for (int time = 0; time < 3; time++) {
            Checks.readAnew(it, "wish 1 right A B 1; wish 1 right B A 0; wish 1 plumb C D;");
            dueQuarrel(it, 20, NONE, NONE);
            checks.due("wishes", it.about(0, 20, 0), 2);
            checks.due("wishes bind none", it.knot(0, 20, 2, 1), 4);
            Checks.readAnew(it, "level A B; tall C D 1; under E F 1;");
            checks.due("free in x", it.knot(0, 20, 0, 1), 3);
            dueSet(it, 20, 0, 5, 5, 5, 5, 5, 5);
            dueSet(it, 20, 1, 5, 5, 4, 5, 4, 5);
            Checks.readAnew(it, "right A B 1; right B C 1; wide E F 1;");
            checks.due("free in both", it.knot(0, 20, 0, 1), 6);
            dueSet(it, 20, 0, 4, 5, 6, 5, 4, 5);
            dueSet(it, 20, 1, 5, 5, 5, 5, 5, 5);
            checks.due("not forced", it.forced(0, 20, 0), 0);
            Checks.readAnew(it, "right A B 1; right B A 0; plumb C D;");
            dueQuarrel(it, 20, 2, 3);
            checks.due("none at all", it.laws(), 0);
            checks.due("alone", it.knot(0, 20, 2, 0), 4);
        }
    }
}
