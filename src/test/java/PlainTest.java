import java.util.ArrayList;
import java.util.List;
import java.util.Random;

/** Long runs of chosen calls, on HandsPicture and on Plain: every answer must be the same. */
public final class PlainTest {
    private static final int CALLS = 512;
    private static final String[] NAMES = {"level", "plumb", "right", "under", "wide", "tall"};

    private final Random dice;
    private final HandsPicture it = new HandsPicture();
    private final Plain plain = new Plain();
    private final List<String> told = new ArrayList<>();
    private final long most;
    private boolean wrong;

    private PlainTest(long seed, long most) {
        dice = new Random(seed);
        this.most = most;
    }

    public static void main(String[] args) {
        int runs = args.length > 0 ? Integer.parseInt(args[0]) : 160;
        int from = args.length > 1 ? Integer.parseInt(args[1]) : 0;
        int wrong = 0;
        for (int run = from; run < from + runs; run++) {
            if (!new PlainTest(run, run % 40 == 7 ? 3_300_000L : 20_000L).run()) wrong++;
        }
        System.out.println("PlainTest: " + wrong + " of " + runs + " runs are wrong");
        if (wrong > 0) System.exit(1);
    }

    private boolean run() {
        int style = dice.nextInt(4);
        for (int i = 0; i < CALLS && !wrong; i++) {
            if (style == 0 && dice.nextInt(40) == 0) typeText(0);
            else if (style == 1 && dice.nextInt(25) == 0) typeText(5);
            else if (style > 1 && dice.nextInt(60) == 0) typeText(30);
            else call(dice.nextInt(29));
        }
        return !wrong;
    }

    private void due(String call, long got, long want) {
        told.add(call + " = " + got);
        if (got != want) {
            wrong = true;
            for (String line : told) System.out.println("  " + line);
            System.out.println(call + " answered " + got + ", due is " + want);
        }
    }

    /** A number of lo .. hi, now and then one beside it, or far from it. */
    private int some(int lo, int hi) {
        int way = dice.nextInt(60);
        if (way == 0) return lo - 1;
        if (way == 1) return hi + 1;
        if (way == 2) return dice.nextInt();
        return lo + dice.nextInt(hi - lo + 1);
    }

    private String lawText(boolean spaced) {
        String gap = spaced ? " " : "";
        StringBuilder s = new StringBuilder();
        if (dice.nextInt(3) == 0) s.append("wish ").append(1 + dice.nextInt(dice.nextBoolean() ? 2 : 9)).append(gap);
        if (dice.nextInt(6) == 0) s.append("where ").append(2 + dice.nextInt(19)).append(gap);
        int word = dice.nextInt(6);
        int a = dice.nextInt(6), b = (a + 1 + dice.nextInt(5)) % 6;
        s.append(NAMES[word]).append(gap).append((char) ('A' + a)).append(gap).append((char) ('A' + b));
        if (word > 1) s.append(gap).append(dice.nextInt(dice.nextInt(4) == 0 ? 20 : 5));
        return s.append(gap).append(';').append(dice.nextInt(5) == 0 ? "  " : "").toString();
    }

    private void typeText(int faultsInHundred) {
        StringBuilder s = new StringBuilder();
        int n = dice.nextInt(faultsInHundred > 5 ? 14 : 12);
        for (int i = 0; i <= n && s.length() < 370; i++) s.append(lawText(dice.nextBoolean()));
        if (dice.nextInt(100) < faultsInHundred) spoil(s);
        if (s.toString().split("wish").length > 7 && dice.nextInt(100) >= faultsInHundred) {
            s = new StringBuilder(s.toString().replaceAll("wish *[0-9]", ""));
        }
        for (int i = 0; i < s.length(); i += 8) {
            String part = s.substring(i, Math.min(s.length(), i + 8));
            long v = dice.nextInt(256);
            for (int k = 0; k < part.length(); k++) v = v << 8 | part.charAt(k);
            due("type(" + part + ")", it.type(v, part.length()), plain.type(v, part.length()));
        }
        due("laws()", it.laws(), plain.laws());
    }

    private void spoil(StringBuilder s) {
        String signs = "ABCDEFGabwishlevel0123456789;;  .\t\0Z@`{/:\u00ff";
        int at = dice.nextInt(s.length());
        switch (dice.nextInt(4)) {
            case 0 -> s.deleteCharAt(at);
            case 1 -> s.insert(at, signs.charAt(dice.nextInt(signs.length())));
            case 2 -> s.setCharAt(at, signs.charAt(dice.nextInt(signs.length())));
            default -> s.setLength(at);
        }
    }

    private void call(int which) {
        int hand = some(0, 2), size = dice.nextInt(3) == 0 ? some(2, 20) : some(2, 6);
        int changes = Math.max(1, it.count(1)), laws = Math.max(1, it.count(0)), lines = Math.max(1, it.count(2));
        switch (which) {
            case 0 -> {
                long v = dice.nextLong();
                int n = some(1, 8);
                if (dice.nextInt(20) == 0) due("type " + v + " " + n, it.type(v, n), plain.type(v, n));
            }
            case 1 -> due("clear", it.clear(), plain.clear());
            case 2 -> {
                if (dice.nextInt(8) == 0) due("laws", it.laws(), plain.laws());
            }
            case 3 -> {
                int i = some(0, laws - 1), w = some(0, 5);
                due("law " + i + " " + w, it.law(i, w), plain.law(i, w));
            }
            case 4, 5 -> {
                int p = some(0, 5), x = some(0, 19), y = some(0, 19);
                due("move " + hand + " " + p + " " + x + " " + y, it.move(hand, p, x, y), plain.move(hand, p, x, y));
            }
            case 6 -> {
                int l = some(0, laws - 1), on = some(0, 1);
                due("lay " + hand + " " + l + " " + on, it.lay(hand, l, on), plain.lay(hand, l, on));
            }
            case 7 -> {
                int c = some(0, changes - 1);
                due("back " + hand + " " + c, it.back(hand, c), plain.back(hand, c));
            }
            case 8 -> {
                int other = some(0, 2);
                due("join " + hand + " " + other, it.join(hand, other), plain.join(hand, other));
            }
            case 9 -> {
                int i = some(0, changes - 1), w = some(0, 5);
                due("change " + i + " " + w, it.change(i, w), plain.change(i, w));
            }
            case 10 -> {
                int c = some(0, changes - 1);
                due("sees " + hand + " " + c, it.sees(hand, c), plain.sees(hand, c));
            }
            case 11 -> {
                int s = some(0, 20), p = some(0, 5), w = some(0, 1);
                due("stands " + hand + " " + s + " " + p + " " + w, it.stands(hand, s, p, w), plain.stands(hand, s, p, w));
            }
            case 12 -> {
                int s = some(0, 20);
                due("on " + hand + " " + s, it.on(hand, s), plain.on(hand, s));
            }
            case 13 -> due("both " + hand, it.both(hand), plain.both(hand));
            case 14 -> {
                int other = some(0, 2);
                due("unlike " + hand + " " + other, it.unlike(hand, other), plain.unlike(hand, other));
            }
            default -> ask(which, hand, size, laws, lines);
        }
    }

    private void ask(int which, int hand, int size, int laws, int lines) {
        int p = some(0, 5), w = some(0, 1), box = dice.nextBoolean() ? some(1, 80) : some(1, 30);
        int line = some(0, lines - 1);
        String on = hand + " " + size + " ";
        switch (which) {
            case 15, 16 -> {
                if (plain.effort(hand, size) <= most) {
                    due("set " + on + p + " " + w, it.set(hand, size, p, w), plain.set(hand, size, p, w));
                }
            }
            case 17 -> {
                int what = some(0, 2);
                if (plain.effort(hand, size) <= most) {
                    due("about " + on + what, it.about(hand, size, what), plain.about(hand, size, what));
                }
            }
            case 18 -> due("quarrel " + on + w, it.quarrel(hand, size, w), plain.quarrel(hand, size, w));
            case 19 -> {
                int l = some(0, laws - 1);
                due("forced " + on + l, it.forced(hand, size, l), plain.forced(hand, size, l));
            }
            case 20 -> due("knot " + on + p + " " + w, it.knot(hand, size, p, w), plain.knot(hand, size, p, w));
            case 21 -> {
                int to = some(0, 5);
                if (dice.nextInt(3) == 0) due("line " + p + " " + to, it.line(p, to), plain.line(p, to));
            }
            case 22 -> {
                int k = some(0, 4);
                due("ink " + k + " " + line + " " + hand, it.ink(k, line, hand), plain.ink(k, line, hand));
            }
            case 23 -> {
                int l = dice.nextBoolean() ? -1 : line;
                due("dots " + hand + " " + l, it.dots(hand, l), plain.dots(hand, l));
            }
            case 24 -> {
                int x = some(0, 19), y = some(0, 19);
                due("meet " + hand + " " + x + " " + y, it.meet(hand, x, y), plain.meet(hand, x, y));
            }
            case 25 -> {
                int width = dice.nextBoolean() ? some(1, 20) : some(1, 6);
                if (dice.nextInt(3) == 0) due("word " + width, it.word(width), plain.word(width));
            }
            case 26 -> due("rows " + box + " " + w, it.rows(box, w), plain.rows(box, w));
            case 27 -> {
                int i = some(0, 6);
                due("row " + box + " " + i, it.row(box, i), plain.row(box, i));
            }
            default -> {
                int what = some(0, 5);
                due("count " + what, it.count(what), plain.count(what));
                due("trace", it.trace(), plain.trace());
            }
        }
    }
}
