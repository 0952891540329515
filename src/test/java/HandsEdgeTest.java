/** The boundaries that the document names for HANDS and CHANGES (promises 6 to 15), each at both sides. */
public final class HandsEdgeTest {
    private static final int BAD = HandsPicture.BAD, STATE = HandsPicture.STATE, FULL = HandsPicture.FULL;
    private static final Checks checks = new Checks("HandsEdgeTest");

    public static void main(String[] args) {
        fiveAtFirst();
        places();
        pointsAndHands();
        changesAtMost();
        eachKindAsTheLast();
        refusedWhenFull();
        fullAfterLawsReadAnew();
        layNumbers();
        stampOfNone();
        stampAboveAllSeen();
        stampOfRefused();
        stampsToSixty();
        seesItsOwn();
        joinsAsOfThen();
        joinItself();
        joinCounts();
        backOfItsOwn();
        backOfABack();
        backTwice();
        takenBackForWhoSees();
        asOfAStamp();
        asOfTheStampOfABack();
        lastMoveOfOneStamp();
        lastLawChangeOfOneStamp();
        lawsAwayAndOn();
        lawsReadAnew();
        lawsReadAnewAndBacks();
        lawsReadWithAFault();
        changeTold();
        bothOfUnlikeHands();
        bothTakenBack();
        bothSawTheOther();
        bothOfEachPoint();
        unlikePoints();
        unlikeLaws();
        unlikeAtMost();
        checks.end();
    }

    private static void place(String what, HandsPicture it, int hand, int stamp, int point, int x, int y) {
        checks.due(what + ", x", it.stands(hand, stamp, point, 0), x);
        checks.due(what + ", y", it.stands(hand, stamp, point, 1), y);
    }

    private static void fiveAtFirst() {
        checks.sentence("POINTS 0 .. 5 have an x and a y: both 5 at first");
        HandsPicture it = new HandsPicture();
        for (int hand = 0; hand < 3; hand++) {
            for (int point = 0; point < 6; point++) {
                place("as of 0", it, hand, 0, point, 5, 5);
                place("as of the last", it, hand, Integer.MAX_VALUE, point, 5, 5);
            }
        }
        it.move(0, 3, 0, 19);
        place("as of 0 still", it, 0, 0, 3, 5, 5);
        place("others still", it, 0, 1, 2, 5, 5);
        place("for others still", it, 1, 1, 3, 5, 5);
    }

    private static void places() {
        checks.sentence("MOVE a POINT to x, y (0 .. 19)");
        HandsPicture it = new HandsPicture();
        int[][] corners = {{0, 0}, {0, 19}, {19, 0}, {19, 19}};
        int number = 0;
        for (int[] to : corners) {
            checks.due("move", it.move(0, 0, to[0], to[1]), number);
            number++;
            place("there", it, 0, number, 0, to[0], to[1]);
        }
        int[][] beyond = {{-1, 0}, {20, 0}, {0, -1}, {0, 20}, {Integer.MIN_VALUE, 0}, {0, Integer.MAX_VALUE}};
        for (int[] to : beyond) {
            checks.due("move to " + to[0] + " " + to[1], it.move(0, 0, to[0], to[1]), BAD);
            checks.due("none is made", it.count(1), 4);
            place("it stays", it, 0, 60, 0, 19, 19);
        }
    }

    private static void pointsAndHands() {
        checks.sentence("HANDS 0 .. 2, POINTS 0 .. 5");
        HandsPicture it = new HandsPicture();
        int number = 0;
        for (int hand = -1; hand <= 3; hand++) {
            for (int point = -1; point <= 6; point++) {
                boolean there = hand >= 0 && hand <= 2 && point >= 0 && point <= 5;
                checks.due("move " + hand + " " + point, it.move(hand, point, hand + 1, point + 1), there ? number : BAD);
                if (there) {
                    checks.due("HAND", it.change(number, 0), hand);
                    checks.due("POINT", it.change(number, 2), point);
                    place("there", it, hand, 60, point, hand + 1, point + 1);
                    number++;
                }
            }
        }
        checks.due("count", it.count(1), 18);
    }

    private static HandsPicture withChanges(int many) {
        HandsPicture it = Checks.with("levelAB;");
        for (int i = 0; i < many; i++) it.move(i % 3, i % 6, i % 20, 7);
        return it;
    }

    private static void changesAtMost() {
        checks.sentence("CHANGES (60 at most, numbered as they are made)");
        HandsPicture it = new HandsPicture();
        for (int i = 0; i < 60; i++) checks.due("move", it.move(i % 3, 0, 0, 0), i);
        checks.due("the 61st", it.move(0, 0, 0, 0), FULL);
        checks.due("count", it.count(1), 60);
        checks.due("change 59", it.change(59, 0), 2);
        checks.due("change 60", it.change(60, 0), BAD);
        checks.due("sees 59", it.sees(2, 59), 1);
        checks.due("sees 60", it.sees(2, 60), BAD);
        checks.due("back of 60", it.back(0, 60), BAD);
    }

    private static void eachKindAsTheLast() {
        checks.sentence("60 CHANGES at most, of all kinds together");
        checks.due("move", withChanges(59).move(0, 0, 0, 0), 59);
        checks.due("lay", withChanges(59).lay(0, 0, 0), 59);
        checks.due("back", withChanges(59).back(0, 0), 59);
        checks.due("move", withChanges(60).move(0, 0, 0, 0), FULL);
        checks.due("AWAY", withChanges(60).lay(0, 0, 0), FULL);
        checks.due("LAY", withChanges(60).lay(0, 0, 1), FULL);
        checks.due("back", withChanges(60).back(0, 0), FULL);
        for (int hand = 0; hand < 3; hand++) {
            checks.due("move of " + hand, withChanges(60).move(hand, 0, 0, 0), FULL);
            checks.due("back of " + hand, withChanges(60).back(hand, hand), FULL);
        }
        HandsPicture it = withChanges(59);
        it.back(0, 0);
        checks.due("a BACK makes no room", it.move(0, 0, 0, 0), FULL);
    }

    private static void refusedWhenFull() {
        checks.sentence("Refused, and nothing changes, the first of these: BAD, STATE, FULL");
        HandsPicture it = withChanges(59);
        it.back(0, 0);
        checks.due("BAD: hand", it.move(3, 0, 0, 0), BAD);
        checks.due("BAD: point", it.move(0, 6, 0, 0), BAD);
        checks.due("BAD: x", it.move(0, 0, 20, 0), BAD);
        checks.due("BAD: y", it.move(0, 0, 0, -1), BAD);
        checks.due("BAD: law", it.lay(0, 1, 0), BAD);
        checks.due("BAD: on", it.lay(0, 0, 2), BAD);
        checks.due("BAD: of another", it.back(1, 0), BAD);
        checks.due("BAD: a BACK", it.back(0, 59), BAD);
        checks.due("STATE", it.back(0, 0), STATE);
        checks.due("FULL", it.back(0, 3), FULL);
        checks.due("not taken back by that", it.back(0, 3), FULL);
        checks.due("FULL", it.move(1, 1, 0, 0), FULL);
        place("where change 55 put it", it, 1, 60, 1, 15, 7);
        checks.due("count", it.count(1), 60);
        checks.due("a JOIN is no CHANGE", it.join(2, 0), 21);
    }

    private static void fullAfterLawsReadAnew() {
        checks.sentence("60 CHANGES at most, those that count for nothing too");
        HandsPicture it = Checks.with("levelAB;");
        for (int i = 0; i < 60; i++) it.lay(0, 0, 0);
        Checks.readAnew(it, "plumbAB;");
        checks.due("count", it.count(1), 60);
        checks.due("FULL still", it.lay(0, 0, 0), FULL);
        checks.due("the LAW is ON", it.on(0, 60), 1);
    }

    private static void layNumbers() {
        checks.sentence("A HAND takes a LAW AWAY (on = 0), LAYS it again (1)");
        HandsPicture it = Checks.with("levelAB;plumbAB;tallAB1;");
        checks.due("on 0", it.lay(0, 2, 0), 0);
        checks.due("AWAY", it.change(0, 1), 1);
        checks.due("on 1", it.lay(0, 2, 1), 1);
        checks.due("LAY", it.change(1, 1), 2);
        int[][] none = {{0, 0, 2}, {0, 0, -1}, {0, 3, 0}, {0, -1, 0}, {3, 0, 0}, {-1, 0, 0}, {0, 12, 1}};
        for (int[] n : none) {
            checks.due("lay " + n[0] + " " + n[1] + " " + n[2], it.lay(n[0], n[1], n[2]), BAD);
            checks.due("none is made", it.count(1), 2);
            checks.due("all ON", it.on(0, 60), 7);
        }
    }

    private static void stampOfNone() {
        checks.sentence("a STAMP: 1 if there are none that its HAND SEES");
        for (int hand = 0; hand < 3; hand++) {
            HandsPicture it = new HandsPicture();
            it.move((hand + 1) % 3, 0, 0, 0);
            it.move((hand + 1) % 3, 0, 0, 0);
            checks.due("it SEES none of them", it.sees(hand, 1), 0);
            it.move(hand, 0, 0, 0);
            checks.due("STAMP", it.change(2, 5), 1);
        }
        HandsPicture it = Checks.with("levelAB;");
        it.join(0, 1);
        it.lay(0, 0, 0);
        checks.due("joined one that SEES none", it.change(0, 5), 1);
        checks.due("no CHANGES: the greatest", new HandsPicture().count(5), 0);
    }

    private static void stampAboveAllSeen() {
        checks.sentence("a STAMP: 1 and the greatest STAMP of those that its HAND SEES");
        HandsPicture it = new HandsPicture();
        for (int i = 0; i < 4; i++) it.move(0, 0, 0, 0);
        it.move(1, 0, 0, 0);
        it.join(1, 0);
        it.move(1, 0, 0, 0);
        checks.due("above the other's", it.change(5, 5), 5);
        it.join(0, 1);
        it.back(0, 0);
        checks.due("a BACK has one too", it.change(6, 5), 6);
        it.move(2, 0, 0, 0);
        it.move(2, 0, 0, 0);
        it.join(0, 2);
        it.move(0, 0, 0, 0);
        checks.due("what is less lowers none", it.change(9, 5), 7);
        it.join(2, 0);
        it.move(2, 0, 0, 0);
        checks.due("of those that another joined", it.change(10, 5), 8);
        it.move(1, 0, 0, 0);
        checks.due("not of those that it does not SEE", it.change(11, 5), 6);
        checks.due("the greatest", it.count(5), 8);
    }

    private static void stampOfRefused() {
        checks.sentence("a refused CHANGE has no STAMP");
        HandsPicture it = Checks.with("levelAB;");
        it.move(0, 6, 0, 0);
        it.lay(0, 1, 0);
        it.back(0, 0);
        checks.due("none yet", it.count(5), 0);
        it.move(0, 0, 0, 0);
        it.back(0, 0);
        it.back(0, 0);
        it.back(0, 1);
        it.join(0, 1);
        it.move(0, 0, 0, 0);
        checks.due("the third", it.change(2, 5), 3);
        checks.due("the greatest", it.count(5), 3);
    }

    private static void stampsToSixty() {
        checks.sentence("STAMPS go as far as CHANGES do");
        HandsPicture it = new HandsPicture();
        for (int i = 0; i < 60; i++) it.move(i % 2, 1, i % 20, i / 20);
        checks.due("apart", it.count(5), 30);
        it = new HandsPicture();
        for (int i = 0; i < 60; i++) it.move(2, 1, i % 20, i / 20);
        checks.due("the greatest", it.count(5), 60);
        checks.due("the last's", it.change(59, 5), 60);
        place("as of 60", it, 2, 60, 1, 19, 2);
        place("as of 61", it, 2, 61, 1, 19, 2);
        place("as of 59", it, 2, 59, 1, 18, 2);
        place("as of 1", it, 2, 1, 1, 0, 0);
        place("as of 0", it, 2, 0, 1, 5, 5);
        checks.due("moved, as of the last STAMP", it.about(2, 20, 1), 0);
        checks.due("x of SET is where it STANDS", it.set(2, 20, 1, 0), 19);
    }

    private static void seesItsOwn() {
        checks.sentence("A HAND SEES its own CHANGES");
        HandsPicture it = Checks.with("levelAB;");
        it.move(0, 0, 0, 0);
        it.lay(1, 0, 0);
        it.move(2, 0, 0, 0);
        it.back(2, 2);
        int[] maker = {0, 1, 2, 2};
        for (int hand = 0; hand < 3; hand++) {
            for (int i = 0; i < 4; i++) checks.due("sees " + hand + " " + i, it.sees(hand, i), maker[i] == hand ? 1 : 0);
            checks.due("sees 4", it.sees(hand, 4), BAD);
            checks.due("sees -1", it.sees(hand, -1), BAD);
        }
        checks.due("hand 3", it.sees(3, 0), BAD);
        checks.due("hand -1", it.sees(-1, 0), BAD);
    }

    private static void joinsAsOfThen() {
        checks.sentence("and all that another one sees once it JOINS that");
        HandsPicture it = new HandsPicture();
        it.move(0, 0, 1, 1);
        it.join(1, 0);
        it.move(0, 0, 2, 2);
        checks.due("ahead of it", it.sees(1, 0), 1);
        checks.due("not what came later", it.sees(1, 1), 0);
        place("where it saw it", it, 1, 60, 0, 1, 1);
        it.move(1, 0, 3, 3);
        checks.due("the other one does not", it.sees(0, 2), 0);
        it.join(2, 1);
        checks.due("what that one saw of others", it.sees(2, 0), 1);
        checks.due("what it made", it.sees(2, 2), 1);
        checks.due("not what it did not see", it.sees(2, 1), 0);
        it.join(1, 0);
        checks.due("joined again", it.sees(1, 1), 1);
        checks.due("one that joined ahead of that", it.sees(2, 1), 0);
    }

    private static void joinItself() {
        checks.sentence("JOINS another one: BAD: itself, too");
        HandsPicture it = new HandsPicture();
        for (int hand = -1; hand <= 3; hand++) {
            for (int other = -1; other <= 3; other++) {
                boolean there = hand >= 0 && hand <= 2 && other >= 0 && other <= 2 && hand != other;
                checks.due("join " + hand + " " + other, it.join(hand, other), there ? 0 : BAD);
            }
        }
    }

    private static void joinCounts() {
        checks.sentence("how many CHANGES it SEES that it did not");
        HandsPicture it = new HandsPicture();
        it.move(1, 0, 0, 0);
        checks.due("of one that SEES none", it.join(1, 0), 0);
        checks.due("one", it.join(0, 1), 1);
        checks.due("none more", it.join(0, 1), 0);
        it.back(1, 0);
        it.move(0, 1, 1, 1);
        checks.due("a BACK too", it.join(0, 1), 1);
        checks.due("just those that it did not", it.join(1, 0), 1);
        checks.due("all", it.join(2, 0), 3);
        checks.due("no CHANGE is made by that", it.count(1), 3);
        it = withChanges(60);
        checks.due("20 of 60", it.join(0, 1), 20);
        checks.due("20 more", it.join(0, 2), 20);
        checks.due("40 of those", it.join(2, 0), 40);
    }

    private static void backOfItsOwn() {
        checks.sentence("takes BACK a CHANGE of its own; BAD: of others");
        HandsPicture it = Checks.with("levelAB;");
        checks.due("there are none", it.back(0, 0), BAD);
        it.move(0, 0, 1, 1);
        it.lay(1, 0, 0);
        it.join(1, 0);
        it.join(0, 1);
        checks.due("of another, seen", it.back(1, 0), BAD);
        checks.due("of another, seen", it.back(0, 1), BAD);
        checks.due("of another, unseen", it.back(2, 0), BAD);
        checks.due("none of this number", it.back(0, 2), BAD);
        checks.due("below 0", it.back(0, -1), BAD);
        checks.due("hand 3", it.back(3, 0), BAD);
        checks.due("hand -1", it.back(-1, 0), BAD);
        checks.due("none is made", it.count(1), 2);
        checks.due("a MOVE", it.back(0, 0), 2);
        checks.due("AWAY", it.back(1, 1), 3);
        checks.due("BAD ahead of STATE", it.back(2, 0), BAD);
        it.lay(2, 0, 1);
        checks.due("LAY", it.back(2, 4), 5);
    }

    private static void backOfABack() {
        checks.sentence("BAD: a BACK, too");
        HandsPicture it = new HandsPicture();
        it.move(0, 0, 1, 1);
        it.back(0, 0);
        checks.due("its own", it.back(0, 1), BAD);
        checks.due("another's", it.back(1, 1), BAD);
        checks.due("none is made", it.count(1), 2);
        place("taken back still", it, 0, 60, 0, 5, 5);
    }

    private static void backTwice() {
        checks.sentence("STATE: it is TAKEN BACK");
        HandsPicture it = new HandsPicture();
        it.move(0, 0, 1, 1);
        it.move(0, 0, 2, 2);
        checks.due("once", it.back(0, 0), 2);
        checks.due("twice", it.back(0, 0), STATE);
        checks.due("none is made", it.count(1), 3);
        checks.due("another one", it.back(0, 1), 3);
        checks.due("that twice", it.back(0, 1), STATE);
        checks.due("the first once more", it.back(0, 0), STATE);
    }

    private static void takenBackForWhoSees() {
        checks.sentence("TAKEN BACK for a HAND, if it SEES a BACK of it");
        HandsPicture it = Checks.with("levelAB;");
        it.move(0, 0, 1, 1);
        it.lay(0, 0, 0);
        it.join(1, 0);
        it.back(0, 0);
        it.back(0, 1);
        place("it SEES the BACK", it, 0, 60, 0, 5, 5);
        checks.due("it SEES the BACK", it.on(0, 60), 1);
        place("it does not", it, 1, 60, 0, 1, 1);
        checks.due("it does not", it.on(1, 60), 0);
        it.join(1, 0);
        place("then it does", it, 1, 60, 0, 5, 5);
        checks.due("then it does", it.on(1, 60), 1);
    }

    private static void asOfAStamp() {
        checks.sentence("with STAMPS at most that");
        HandsPicture it = Checks.with("levelAB;plumbAB;");
        it.move(0, 0, 1, 11);
        it.move(0, 0, 2, 12);
        it.lay(0, 1, 0);
        it.lay(0, 1, 1);
        place("as of 0", it, 0, 0, 0, 5, 5);
        place("as of 1", it, 0, 1, 0, 1, 11);
        place("as of 2", it, 0, 2, 0, 2, 12);
        checks.due("as of 2", it.on(0, 2), 3);
        checks.due("as of 3", it.on(0, 3), 1);
        checks.due("as of 4", it.on(0, 4), 3);
        checks.due("as of the greatest", it.on(0, Integer.MAX_VALUE), 3);
        checks.due("as of 0", it.on(0, 0), 3);
        for (int stamp : new int[] {-1, -2, Integer.MIN_VALUE}) {
            checks.due("stands as of " + stamp, it.stands(0, stamp, 0, 0), BAD);
            checks.due("on as of " + stamp, it.on(0, stamp), BAD);
        }
    }

    private static void asOfTheStampOfABack() {
        checks.sentence("not TAKEN BACK by such (BACKS with STAMPS at most that)");
        HandsPicture it = Checks.with("levelAB;");
        it.move(0, 0, 1, 11);
        it.move(0, 0, 2, 12);
        it.lay(0, 0, 0);
        it.back(0, 1);
        it.back(0, 2);
        place("as of 3", it, 0, 3, 0, 2, 12);
        place("as of 4", it, 0, 4, 0, 1, 11);
        checks.due("as of 4", it.on(0, 4), 0);
        checks.due("as of 5", it.on(0, 5), 1);
        it.back(0, 0);
        place("as of 5", it, 0, 5, 0, 1, 11);
        place("as of 6", it, 0, 6, 0, 5, 5);
        place("as of 1", it, 0, 1, 0, 1, 11);
    }

    private static void lastMoveOfOneStamp() {
        checks.sentence("in the order of STAMPS, of HANDS where these are one: MOVES");
        for (int a = 0; a < 3; a++) {
            for (int b = 0; b < 3; b++) {
                if (a == b) continue;
                HandsPicture it = new HandsPicture();
                it.move(a, 0, a, 10 + a);
                it.move(b, 0, b, 10 + b);
                it.join(a, b);
                it.join(b, a);
                int last = Math.max(a, b);
                place("the greater HAND's", it, a, 60, 0, last, 10 + last);
                place("for both", it, b, 1, 0, last, 10 + last);
            }
        }
        HandsPicture it = new HandsPicture();
        it.move(0, 0, 1, 1);
        it.move(0, 0, 2, 2);
        it.move(2, 0, 3, 3);
        it.join(2, 0);
        place("the greater STAMP is the last", it, 2, 60, 0, 2, 2);
        place("as of 1 the HAND", it, 2, 1, 0, 3, 3);
    }

    private static void lastLawChangeOfOneStamp() {
        checks.sentence("in the order of STAMPS, of HANDS where these are one: LAWS");
        for (int a = 0; a < 3; a++) {
            for (int b = 0; b < 3; b++) {
                if (a == b) continue;
                HandsPicture it = Checks.with("levelAB;");
                it.lay(a, 0, 0);
                it.lay(b, 0, 1);
                it.join(a, b);
                it.join(b, a);
                checks.due("AWAY of " + a + ", LAY of " + b, it.on(a, 60), b > a ? 1 : 0);
                checks.due("for both", it.on(b, 1), b > a ? 1 : 0);
            }
        }
        HandsPicture it = Checks.with("levelAB;");
        it.lay(0, 0, 0);
        it.lay(0, 0, 0);
        it.lay(2, 0, 1);
        it.join(2, 0);
        checks.due("the greater STAMP is the last", it.on(2, 60), 0);
        checks.due("as of 1 the HAND", it.on(2, 1), 1);
    }

    private static void lawsAwayAndOn() {
        checks.sentence("LAWS are ON but those that the last such CHANGE took AWAY");
        HandsPicture it = Checks.with("levelAB;".repeat(12));
        checks.due("all at first", it.on(0, 60), 4095);
        it.lay(0, 11, 0);
        checks.due("without the last", it.on(0, 60), 2047);
        it.lay(0, 0, 0);
        checks.due("without the first", it.on(0, 60), 2046);
        it.lay(0, 5, 1);
        checks.due("laid where it is ON", it.on(0, 60), 2046);
        it.lay(0, 11, 0);
        checks.due("AWAY where it is", it.on(0, 60), 2046);
        it.back(0, 3);
        checks.due("one of two taken BACK", it.on(0, 60), 2046);
        it.back(0, 0);
        checks.due("both", it.on(0, 60), 4094);
        it.lay(0, 0, 1);
        checks.due("laid again", it.on(0, 60), 4095);
        it.back(0, 6);
        checks.due("the LAY taken BACK", it.on(0, 60), 4094);
    }

    private static void lawsReadAnew() {
        checks.sentence("THE LAWS read anew: all that took AWAY or LAID LAWS counts for nothing, ahead of it");
        HandsPicture it = Checks.with("levelAB;plumbAB;");
        it.lay(0, 0, 0);
        it.move(0, 0, 1, 2);
        it.lay(1, 1, 0);
        checks.due("anew", Checks.readAnew(it, "levelAB;plumbAB;tallAB1;"), 3);
        checks.due("all ON", it.on(0, 60), 7);
        checks.due("as of 1, too", it.on(0, 1), 7);
        checks.due("for all", it.on(1, 60), 7);
        place("MOVES stay", it, 0, 60, 0, 1, 2);
        checks.due("CHANGES stay", it.count(1), 3);
        checks.due("and what they are", it.change(0, 1), 1);
        it.join(1, 0);
        checks.due("JOINED later", it.on(1, 60), 7);
        it.lay(0, 0, 0);
        checks.due("after it", it.on(0, 60), 6);
        checks.due("its STAMP", it.change(3, 5), 3);
        it.laws();
        checks.due("an empty text, too", it.on(0, 60), 0);
        Checks.readAnew(it, "levelAB;");
        checks.due("and anew", it.on(0, 60), 1);
    }

    private static void lawsReadAnewAndBacks() {
        checks.sentence("THE LAWS read anew: a BACK of what counts for nothing");
        HandsPicture it = Checks.with("levelAB;");
        it.lay(0, 0, 0);
        it.lay(0, 0, 1);
        Checks.readAnew(it, "levelAB;plumbAB;");
        checks.due("of AWAY", it.back(0, 0), 2);
        checks.due("ON still", it.on(0, 60), 3);
        checks.due("taken BACK", it.back(0, 0), STATE);
        it.lay(0, 0, 0);
        checks.due("of LAY", it.back(0, 1), 4);
        checks.due("AWAY still", it.on(0, 60), 2);
        it.back(0, 3);
        checks.due("a BACK after it", it.on(0, 60), 3);
    }

    private static void lawsReadWithAFault() {
        checks.sentence("THE LAWS read anew, but for a FAULT");
        HandsPicture it = Checks.with("levelAB;plumbAB;");
        it.lay(0, 0, 0);
        checks.due("a FAULT", Checks.readAnew(it, "levelAB"), -17);
        checks.due("AWAY still", it.on(0, 60), 2);
        Checks.type(it, ";");
        checks.due("none", it.laws(), 1);
        checks.due("ON", it.on(0, 60), 1);
    }

    private static void changeTold() {
        checks.sentence("0 HAND, 1 what it is, 2 the POINT, LAW or CHANGE, 3 x (0), 4 y (0), 5 STAMP");
        HandsPicture it = Checks.with("levelAB;".repeat(12));
        it.move(2, 5, 19, 18);
        it.lay(2, 11, 0);
        it.lay(1, 10, 1);
        it.back(2, 1);
        it.move(0, 0, 0, 0);
        int[][] due = {{2, 0, 5, 19, 18, 1}, {2, 1, 11, 0, 0, 2}, {1, 2, 10, 0, 0, 1}, {2, 3, 1, 0, 0, 3}, {0, 0, 0, 0, 0, 1}};
        for (int i = 0; i < 5; i++) {
            for (int what = 0; what < 6; what++) checks.due("change " + i + " " + what, it.change(i, what), due[i][what]);
            checks.due("what -1", it.change(i, -1), BAD);
            checks.due("what 6", it.change(i, 6), BAD);
        }
        checks.due("change -1", it.change(-1, 0), BAD);
        checks.due("change 5", it.change(5, 0), BAD);
    }

    private static void bothOfUnlikeHands() {
        checks.sentence("BOTH: POINTS of which a HAND SEES two MOVES by unlike HANDS");
        HandsPicture it = new HandsPicture();
        it.move(0, 0, 1, 1);
        it.move(0, 0, 2, 2);
        checks.due("of one HAND", it.both(0), 0);
        it.move(1, 1, 1, 1);
        it.join(0, 1);
        checks.due("of unlike POINTS", it.both(0), 0);
        it.move(2, 0, 1, 1);
        checks.due("one of them unseen", it.both(0), 0);
        it.join(0, 2);
        checks.due("both seen", it.both(0), 1);
        checks.due("not by others", it.both(2) + it.both(1), 0);
        checks.due("hand 3", it.both(3), BAD);
        checks.due("hand -1", it.both(-1), BAD);
        it = Checks.with("levelAB;");
        it.lay(0, 0, 0);
        it.lay(1, 0, 0);
        it.move(2, 0, 1, 1);
        it.join(2, 0);
        it.join(2, 1);
        checks.due("LAWS are no POINTS", it.both(2), 0);
    }

    private static void bothTakenBack() {
        checks.sentence("BOTH: none TAKEN BACK");
        for (int taken = 0; taken < 2; taken++) {
            HandsPicture it = new HandsPicture();
            it.move(0, 4, 1, 1);
            it.move(1, 4, 1, 1);
            it.join(2, 0);
            it.join(2, 1);
            checks.due("neither is", it.both(2), 16);
            it.back(taken, taken);
            checks.due("it does not SEE the BACK", it.both(2), 16);
            it.join(2, taken);
            checks.due("it does", it.both(2), 0);
        }
        HandsPicture it = new HandsPicture();
        it.move(0, 4, 1, 1);
        it.move(0, 4, 2, 2);
        it.move(1, 4, 1, 1);
        it.back(0, 1);
        it.join(1, 0);
        checks.due("another MOVE of it is left", it.both(1), 16);
    }

    private static void bothSawTheOther() {
        checks.sentence("BOTH: neither made by a HAND that saw the other one");
        HandsPicture it = new HandsPicture();
        it.move(0, 0, 1, 1);
        it.join(1, 0);
        it.move(1, 0, 2, 2);
        checks.due("the later saw the earlier", it.both(1), 0);
        it.join(0, 1);
        checks.due("for both", it.both(0), 0);
        it = new HandsPicture();
        it.move(0, 0, 1, 1);
        it.move(1, 0, 2, 2);
        it.join(1, 0);
        it.join(0, 1);
        checks.due("SEEN only later", it.both(0), 1);
        it.move(0, 0, 3, 3);
        checks.due("a MOVE that saw both leaves the two", it.both(0), 1);
        it.back(0, 0);
        checks.due("without the first none is left", it.both(0), 0);
        it = new HandsPicture();
        it.move(0, 0, 1, 1);
        it.join(2, 0);
        it.join(1, 2);
        it.move(1, 0, 2, 2);
        checks.due("seen by way of another HAND", it.both(1), 0);
    }

    private static void bothOfEachPoint() {
        checks.sentence("BOTH, as bits");
        HandsPicture it = new HandsPicture();
        for (int point = 0; point < 6; point++) {
            it.move(0, point, 1, 1);
            it.move(1, point, 1, 1);
            it.join(2, 0);
            it.join(2, 1);
            checks.due("POINTS to " + point, it.both(2), (2 << point) - 1);
        }
    }

    private static void unlikePoints() {
        checks.sentence("UNLIKE: how many POINTS STAND elsewhere");
        HandsPicture it = new HandsPicture();
        checks.due("none", it.unlike(0, 1), 0);
        it.move(0, 0, 6, 5);
        checks.due("by x", it.unlike(0, 1), 1);
        it.move(0, 1, 5, 4);
        checks.due("by y", it.unlike(1, 0), 2);
        it.move(0, 2, 0, 0);
        checks.due("by both: one", it.unlike(0, 1), 3);
        it.move(1, 3, 5, 5);
        checks.due("moved to where it stood", it.unlike(0, 1), 3);
        it.move(1, 0, 6, 5);
        checks.due("moved to the same place", it.unlike(0, 1), 2);
        checks.due("the third HAND", it.unlike(2, 0), 3);
        for (int hand = 0; hand < 3; hand++) {
            checks.due("of one with itself", it.unlike(hand, hand), 0);
            checks.due("other 3", it.unlike(hand, 3), BAD);
            checks.due("other -1", it.unlike(hand, -1), BAD);
            checks.due("hand 3", it.unlike(3, hand), BAD);
            checks.due("hand -1", it.unlike(-1, hand), BAD);
        }
    }

    private static void unlikeLaws() {
        checks.sentence("UNLIKE: LAWS that are ON for just one of them");
        HandsPicture it = Checks.with("levelAB;plumbAB;tallAB1;");
        it.lay(0, 0, 0);
        checks.due("one", it.unlike(0, 1), 1);
        it.lay(1, 2, 0);
        checks.due("another for the other", it.unlike(0, 1), 2);
        it.lay(1, 0, 0);
        checks.due("one is AWAY for both", it.unlike(0, 1), 1);
        it.lay(0, 1, 1);
        checks.due("one that was ON is", it.unlike(0, 1), 1);
        it.join(0, 1);
        it.join(1, 0);
        checks.due("joined", it.unlike(0, 1), 0);
        checks.due("the third", it.unlike(2, 1), 2);
    }

    private static void unlikeAtMost() {
        checks.sentence("UNLIKE: both added");
        HandsPicture it = Checks.with("levelAB;".repeat(12));
        for (int point = 0; point < 6; point++) it.move(0, point, 0, 0);
        for (int law = 0; law < 12; law++) it.lay(1, law, 0);
        checks.due("all", it.unlike(0, 1), 18);
        checks.due("all", it.unlike(1, 0), 18);
        checks.due("POINTS alone", it.unlike(0, 2), 6);
        checks.due("LAWS alone", it.unlike(2, 1), 12);
    }
}
