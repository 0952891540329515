import java.util.ArrayList;
import java.util.List;

/**
 * "Refused, and nothing changes": every number of every call, at both sides of both its ends, on an object that
 * holds nothing, one that holds something, and one that is full; then all that can be asked, and what comes next.
 */
public final class RangeTest {
    private static final int BAD = HandsPicture.BAD, STATE = HandsPicture.STATE, FULL = HandsPicture.FULL;
    private static final int MIN = Integer.MIN_VALUE, MAX = Integer.MAX_VALUE;
    private static final Checks checks = new Checks("RangeTest");

    interface Call {
        long on(HandsPicture it, int[] n);
    }

    interface Run {
        void on(HandsPicture it);
    }

    /** A call, the least and the greatest that each of its numbers may be, and whether a full object refuses it. */
    record Told(String name, boolean adds, Call call, int[]... ranges) {
    }

    record State(String name, int laws, int changes, int lines, boolean isFull, Run run) {
        HandsPicture made() {
            HandsPicture it = new HandsPicture();
            run.on(it);
            return it;
        }
    }

    private static int[] of(int least, int most) {
        return new int[] {least, most};
    }

    public static void main(String[] args) {
        State[] states = {new State("new", 0, 0, 0, false, it -> { }), some(), full()};
        for (State state : states) {
            List<String> before = answers(state, it -> { });
            for (Told told : told(state)) {
                accepts(state, told);
                refuses(state, told, before);
            }
        }
        holdsAsMuchAsCanBe(full());
        refusedByState(some());
        refusedByFault();
        refusedByRoom(full());
        checks.end();
    }

    // ---- what the objects hold

    private static State some() {
        return new State("some", 4, 8, 2, false, it -> {
            Checks.readAnew(it, "right A B 3; wish 5 where 9 tall B C 2; level D E; wide A C 4;");
            it.move(0, 0, 19, 2);
            it.move(1, 0, 3, 17);
            it.lay(1, 3, 0);
            it.join(2, 1);
            it.move(2, 1, 0, 0);
            it.lay(2, 3, 1);
            it.back(1, 1);
            it.join(0, 2);
            it.move(0, 4, 9, 9);
            it.lay(0, 2, 0);
            it.line(0, 1);
            it.line(4, 2);
            it.word(7);
            it.word(1);
            it.word(3);
            it.ink(4, 0, 0);
            Checks.type(it, "wish 2 under E F 4;");
        });
    }

    private static State full() {
        return new State("full", 12, 60, 8, true, it -> {
            Checks.readAnew(it, "right AB3;wish5where9tallBC2;levelDE;wideAC4;wish1plumbDF;wish9underFE2;"
                    + "wish2tallAB1;wish2levelAC;underAD1;where20rightAF1;wish3wideFA2;where4wideBF3;");
            for (int i = 0; i < 60; i++) {
                int hand = i % 3;
                if (i % 10 == 9) it.back(hand, i - 3);
                else if (i % 4 == 3) it.lay(hand, i % 12, i % 5 == 0 ? 1 : 0);
                else it.move(hand, i * 5 % 6, i * 7 % 20, i * 11 % 20);
                if (i % 7 == 6) it.join(hand, (hand + i) % 3 == hand ? (hand + 1) % 3 : (hand + i) % 3);
            }
            for (int i = 0; i < 8; i++) it.line(i % 6, (i * 2 + 1) % 6 == i % 6 ? (i + 1) % 6 : (i * 2 + 1) % 6);
            for (int i = 0; i < 12; i++) it.word(1 + i * 7 % 20);
            it.ink(3, 7, 1);
            String pending = "wish 2 under E F 4; plumb A B; ";
            Checks.type(it, pending + " ".repeat(388 - pending.length()) + "wide C D 19;");
        });
    }

    private static void holdsAsMuchAsCanBe(State state) {
        checks.sentence("the full object is full");
        int[] due = {12, 60, 8, 12, 400};
        for (int what = 0; what < 5; what++) checks.due("count " + what, state.made().count(what), due[what]);
    }

    // ---- the calls

    private static List<Told> told(State s) {
        int[] hand = of(0, 2), point = of(0, 5), place = of(0, 19), stamp = of(0, MAX), size = of(2, 20);
        int[] law = of(0, s.laws - 1), change = of(0, s.changes - 1), line = of(0, s.lines - 1);
        int[] two = of(0, 1), three = of(0, 2), six = of(0, 5), box = of(1, 80);
        return List.of(
                new Told("type", true, (it, n) -> it.type(0x2020202020202020L, n[0]), of(1, 8)),
                new Told("law", false, (it, n) -> it.law(n[0], n[1]), law, six),
                new Told("move", true, (it, n) -> it.move(n[0], n[1], n[2], n[3]), hand, point, place, place),
                new Told("lay", true, (it, n) -> it.lay(n[0], n[1], n[2]), hand, law, two),
                new Told("back", true, (it, n) -> it.back(n[0], n[1]), hand, change),
                new Told("join", false, (it, n) -> it.join(n[0], n[1]), hand, hand),
                new Told("change", false, (it, n) -> it.change(n[0], n[1]), change, six),
                new Told("sees", false, (it, n) -> it.sees(n[0], n[1]), hand, change),
                new Told("stands", false, (it, n) -> it.stands(n[0], n[1], n[2], n[3]), hand, stamp, point, two),
                new Told("on", false, (it, n) -> it.on(n[0], n[1]), hand, stamp),
                new Told("both", false, (it, n) -> it.both(n[0]), hand),
                new Told("unlike", false, (it, n) -> it.unlike(n[0], n[1]), hand, hand),
                new Told("set", false, (it, n) -> it.set(n[0], n[1], n[2], n[3]), hand, size, point, two),
                new Told("about", false, (it, n) -> it.about(n[0], n[1], n[2]), hand, size, three),
                new Told("quarrel", false, (it, n) -> it.quarrel(n[0], n[1], n[2]), hand, size, two),
                new Told("forced", false, (it, n) -> it.forced(n[0], n[1], n[2]), hand, size, law),
                new Told("knot", false, (it, n) -> it.knot(n[0], n[1], n[2], n[3]), hand, size, point, two),
                new Told("line", true, (it, n) -> it.line(n[0], n[1]), point, point),
                new Told("ink", false, (it, n) -> it.ink(n[0], n[1], n[2]), of(0, 4), line, hand),
                new Told("dots", false, (it, n) -> it.dots(n[0], n[1]), hand, of(-1, s.lines - 1)),
                new Told("meet", false, (it, n) -> it.meet(n[0], n[1], n[2]), hand, place, place),
                new Told("word", true, (it, n) -> it.word(n[0]), of(1, 20)),
                new Told("rows", false, (it, n) -> it.rows(n[0], n[1]), box, two),
                new Told("row", false, (it, n) -> it.row(n[0], n[1]), box, of(0, MAX)),
                new Told("count", false, (it, n) -> it.count(n[0]), six));
    }

    private static String written(Told told, int[] n) {
        StringBuilder s = new StringBuilder(told.name);
        for (int number : n) s.append(' ').append(number);
        return s.toString();
    }

    private static int[] middle(Told told) {
        int[] n = new int[told.ranges.length];
        for (int k = 0; k < n.length; k++) {
            int[] range = told.ranges[k];
            n[k] = range[1] < range[0] ? range[0] : range[0] + (range[1] - range[0]) / 2;
        }
        return n;
    }

    private static boolean isEmpty(Told told) {
        for (int[] range : told.ranges) if (range[1] < range[0]) return true;
        return false;
    }

    /** At its ends each number is as told. (Which CHANGES a HAND may take BACK is no matter of ends.) */
    private static void accepts(State state, Told told) {
        checks.sentence("as told, on an object that holds " + state.name);
        if (isEmpty(told) || told.name.equals("back")) return;
        for (int k = 0; k < told.ranges.length; k++) {
            for (int end : told.ranges[k]) {
                int[] n = middle(told);
                n[k] = end;
                if ((told.name.equals("line") || told.name.equals("join")) && n[0] == n[1]) continue;
                long got = told.call.on(state.made(), n);
                if (told.adds && state.isFull) checks.due(written(told, n), got, FULL);
                else checks.need(written(told, n) + " is not BAD", got != BAD);
            }
        }
    }

    private static void refuses(State state, Told told, List<String> before) {
        checks.sentence("BAD, on an object that holds " + state.name);
        List<int[]> refused = new ArrayList<>();
        int[] least = new int[told.ranges.length], greatest = new int[told.ranges.length];
        for (int k = 0; k < told.ranges.length; k++) {
            int low = told.ranges[k][0], high = told.ranges[k][1];
            least[k] = low - 1;
            greatest[k] = high == MAX ? -1 : high + 1;
            for (int beyond : new int[] {low - 1, MIN, high == MAX ? -1 : high + 1, high == MAX ? -1 : MAX}) {
                int[] n = middle(told);
                n[k] = beyond;
                refused.add(n);
            }
        }
        refused.add(least);
        refused.add(greatest);
        if (isEmpty(told)) refused.add(middle(told));
        for (int[] n : refused) checks.due(written(told, n), told.call.on(state.made(), n), BAD);
        unchanged(told.name, before, answers(state, it -> {
            for (int[] n : refused) told.call.on(it, n);
        }));
    }

    // ---- all that can be asked

    /** Each part on an object of its own, for an object is good for 512 calls. */
    private static List<String> answers(State state, Run refused) {
        List<String> all = new ArrayList<>();
        for (int part = 0; part < 9; part++) {
            HandsPicture it = state.made();
            refused.on(it);
            all.add(answers(it, part));
        }
        return all;
    }

    private static void unchanged(String name, List<String> before, List<String> after) {
        for (int part = 0; part < before.size(); part++) {
            checks.need(name + " changes nothing (part " + part + ")", before.get(part).equals(after.get(part)));
        }
    }

    private static String answers(HandsPicture it, int part) {
        StringBuilder s = new StringBuilder();
        switch (part) {
            case 0 -> askSmall(it, s);
            case 1 -> askLawsAndSeen(it, s);
            case 2 -> askChanges(it, s, 0, 30);
            case 3 -> askChanges(it, s, 30, 61);
            case 4 -> askStands(it, s);
            case 5 -> askSettings(it, s);
            case 6 -> askLinesAndWords(it, s);
            case 7 -> readText(it, s);
            default -> goOn(it, s);
        }
        return s.toString();
    }

    private static void tell(StringBuilder s, long answer) {
        s.append(answer).append(' ');
    }

    private static void askSmall(HandsPicture it, StringBuilder s) {
        tell(s, it.trace());
        for (int what = 0; what < 6; what++) tell(s, it.count(what));
        for (int hand = 0; hand < 3; hand++) {
            tell(s, it.both(hand));
            for (int other = 0; other < 3; other++) tell(s, it.unlike(hand, other));
            for (int stamp = 0; stamp <= 60; stamp++) tell(s, it.on(hand, stamp));
        }
        tell(s, it.clear());
    }

    private static void askLawsAndSeen(HandsPicture it, StringBuilder s) {
        for (int i = 0; i < 13; i++) for (int what = 0; what < 6; what++) tell(s, it.law(i, what));
        for (int i = 0; i < 61; i++) for (int hand = 0; hand < 3; hand++) tell(s, it.sees(hand, i));
    }

    private static void askChanges(HandsPicture it, StringBuilder s, int from, int to) {
        for (int i = from; i < to; i++) for (int what = 0; what < 6; what++) tell(s, it.change(i, what));
    }

    private static void askStands(HandsPicture it, StringBuilder s) {
        for (int stamp : new int[] {0, 1, 2, 5, 12, 60}) {
            for (int n = 0; n < 36; n++) tell(s, it.stands(n / 12, stamp, n / 2 % 6, n % 2));
        }
    }

    private static void askSettings(HandsPicture it, StringBuilder s) {
        for (int size : new int[] {2, 8, 20}) {
            for (int hand = 0; hand < 3; hand++) {
                for (int n = 0; n < 6; n++) tell(s, it.set(hand, size, n, n % 2));
                for (int what = 0; what < 3; what++) tell(s, it.about(hand, size, what));
                tell(s, it.quarrel(hand, size, 1));
                for (int law = 0; law < 12; law++) tell(s, it.forced(hand, size, law));
                for (int point = 0; point < 6; point++) tell(s, it.knot(hand, size, point, point % 2));
            }
        }
    }

    private static void askLinesAndWords(HandsPicture it, StringBuilder s) {
        for (int hand = 0; hand < 3; hand++) {
            for (int line = -1; line < 9; line++) tell(s, it.dots(hand, line));
            for (int line = 0; line < 9; line++) tell(s, it.ink(2, line, hand));
            for (int n = 0; n < 20; n++) tell(s, it.meet(hand, n, 19 - n));
        }
        for (int box : new int[] {1, 7, 20, 33, 80}) {
            tell(s, it.rows(box, 0));
            tell(s, it.rows(box, 1));
            for (int i = 0; i < 13; i++) tell(s, it.row(box, i));
        }
        tell(s, it.trace());
    }

    private static void readText(HandsPicture it, StringBuilder s) {
        tell(s, it.laws());
        tell(s, it.count(4));
        for (int i = 0; i < 12; i++) for (int what = 0; what < 6; what++) tell(s, it.law(i, what));
        for (int hand = 0; hand < 3; hand++) tell(s, it.on(hand, 60));
    }

    private static void goOn(HandsPicture it, StringBuilder s) {
        for (int hand = 0; hand < 3; hand++) {
            int made = it.move(hand, 2, 1, 1);
            tell(s, made);
            tell(s, it.change(made, 5));
            tell(s, it.lay(hand, 0, 0));
            tell(s, it.back(hand, made));
            tell(s, it.join(hand, (hand + 1) % 3));
            tell(s, it.both(hand));
        }
        tell(s, it.line(3, 4));
        tell(s, it.word(2));
        tell(s, it.type(32, 1));
        for (int i = 0; i < 61; i++) for (int hand = 0; hand < 3; hand++) tell(s, it.back(hand, i));
        for (int what = 0; what < 6; what++) tell(s, it.count(what));
    }

    // ---- refused for what stands

    private static void refusedByState(State state) {
        checks.sentence("BAD or STATE for what stands");
        HandsPicture it = state.made();
        checks.due("of another", it.back(0, 1), BAD);
        checks.due("a BACK", it.back(1, 5), BAD);
        checks.due("TAKEN BACK", it.back(1, 1), STATE);
        checks.due("itself", it.join(1, 1), BAD);
        checks.due("to itself", it.line(3, 3), BAD);
        checks.due("not ON", it.forced(0, 20, 2), STATE);
        checks.due("does not COUNT", it.forced(0, 9, 1), STATE);
        unchanged("each of these", answers(state, x -> { }), answers(state, x -> {
            x.back(0, 1);
            x.back(1, 5);
            x.back(1, 1);
            x.join(1, 1);
            x.line(3, 3);
            x.forced(0, 20, 2);
            x.forced(0, 9, 1);
        }));
    }

    private static void refusedByFault() {
        checks.sentence("-10 less FAULT: nothing changes");
        for (String text : new String[] {" level A A;", "levelAB;".repeat(12) + "levelAB;", "@", " wish 0", " tall A B"}) {
            State state = new State("a fault", 4, 8, 2, false, it -> {
                some().run.on(it);
                Checks.type(it, text);
            });
            checks.need("a FAULT", state.made().laws() <= -10);
            unchanged("laws", answers(state, x -> { }), answers(state, HandsPicture::laws));
        }
    }

    private static void refusedByRoom(State state) {
        checks.sentence("FULL: nothing changes");
        HandsPicture it = state.made();
        checks.due("move", it.move(0, 0, 1, 1), FULL);
        checks.due("AWAY", it.lay(0, 0, 0), FULL);
        checks.due("LAY", it.lay(1, 3, 1), FULL);
        checks.due("back", it.back(0, 0), FULL);
        checks.due("line", it.line(5, 3), FULL);
        checks.due("word", it.word(20), FULL);
        checks.due("type", it.type('@', 1), FULL);
        checks.due("type", it.type('@', 8), FULL);
        unchanged("each of these", answers(state, x -> { }), answers(state, x -> {
            x.move(0, 0, 1, 1);
            x.lay(0, 0, 0);
            x.lay(1, 3, 1);
            x.back(0, 0);
            x.line(5, 3);
            x.word(20);
            x.type('@', 1);
            x.type('@', 8);
        }));
    }
}
