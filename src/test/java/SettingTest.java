import java.util.Random;

/** Chosen laws and places, most of them such that there is a setting: all that is told of it, on both classes. */
public final class SettingTest {
    private static final String[] NAMES = {"level", "plumb", "right", "under", "wide", "tall"};

    private final Random dice;
    private final HandsPicture it = new HandsPicture();
    private final Plain plain = new Plain();
    private final StringBuilder told = new StringBuilder();
    private int wrong;

    private SettingTest(long seed) {
        dice = new Random(seed);
    }

    public static void main(String[] args) {
        int rounds = args.length > 0 ? Integer.parseInt(args[0]) : 1500;
        int from = args.length > 1 ? Integer.parseInt(args[1]) : 0;
        long most = args.length > 2 ? Long.parseLong(args[2]) : 200_000L;
        int wrong = 0, asked = 0, quarrels = 0;
        for (int round = from; round < from + rounds; round++) {
            SettingTest test = new SettingTest(round);
            int size = test.begin();
            if (test.plain.effort(0, size) > most) continue;
            asked++;
            if (test.it.quarrel(0, size, 0) > 2) quarrels++;
            wrong += test.compare(size);
        }
        System.out.println("SettingTest: " + wrong + " wrong answers in " + asked + " rounds, " + quarrels
                + " of them with quarrels of three laws or more");
        if (wrong > 0) System.exit(1);
    }

    private int begin() {
        int size = dice.nextBoolean() ? 2 + dice.nextInt(7) : 2 + dice.nextInt(19);
        int[][] hidden = new int[2][6];
        for (int i = 0; i < 12; i++) hidden[i / 6][i % 6] = dice.nextInt(size);
        boolean oneAxis = dice.nextInt(3) == 0;
        int fair = dice.nextInt(3) == 0 ? 70 : 100;
        int wishes = dice.nextInt(7), n = 1 + dice.nextInt(12);
        StringBuilder text = new StringBuilder();
        for (int i = 0; i < n; i++) text.append(law(hidden, oneAxis, i < wishes, fair));
        for (int i = 0; i < text.length(); i += 8) {
            long v = 0;
            int end = Math.min(text.length(), i + 8);
            for (int k = i; k < end; k++) v = v << 8 | text.charAt(k);
            same("type", it.type(v, end - i), plain.type(v, end - i));
        }
        told.append(text).append('\n');
        same("laws", it.laws(), plain.laws());
        for (int i = dice.nextInt(8); i > 0; i--) {
            int p = dice.nextInt(6), x = dice.nextInt(20), y = dice.nextInt(20);
            told.append("move ").append(p).append(' ').append(x).append(' ').append(y).append('\n');
            same("move", it.move(0, p, x, y), plain.move(0, p, x, y));
        }
        return size;
    }

    private String law(int[][] hidden, boolean oneAxis, boolean wish, int fair) {
        int word = oneAxis ? new int[] {1, 2, 4}[dice.nextInt(3)] : dice.nextInt(6);
        int[] v = hidden[word == 1 || word == 2 || word == 4 ? 0 : 1];
        int a = dice.nextInt(6), b = (a + 1 + dice.nextInt(5)) % 6;
        int n = dice.nextInt(dice.nextBoolean() ? 4 : 20);
        if (!wish && dice.nextInt(100) < fair) {
            if (v[b] < v[a]) {
                int c = a;
                a = b;
                b = c;
            }
            n = v[b] - v[a];
            if (word < 2 && n != 0) word += 2;
            if (word == 2 || word == 3) n = dice.nextInt(n + 1);
        }
        StringBuilder s = new StringBuilder();
        if (wish) s.append("wish ").append(1 + dice.nextInt(dice.nextBoolean() ? 2 : 9)).append(' ');
        if (dice.nextInt(8) == 0) s.append("where ").append(2 + dice.nextInt(19)).append(' ');
        s.append(NAMES[word]).append((char) ('A' + a)).append((char) ('A' + b));
        if (word > 1) s.append(n);
        return s.append(';').toString();
    }

    private void same(String call, int got, int want) {
        if (got != want) {
            wrong++;
            System.out.println(told + call + " answered " + got + ", due is " + want);
        }
    }

    private int compare(int size) {
        Plain.Best x = plain.bestOf(0, size, true), y = plain.bestOf(0, size, false);
        boolean none = x.values == null || y.values == null;
        for (int p = 0; p < 6; p++) {
            same("set x of " + p + " on " + size, it.set(0, size, p, 0), none ? Plain.NONE : x.values[p]);
            same("set y of " + p + " on " + size, it.set(0, size, p, 1), none ? Plain.NONE : y.values[p]);
            same("knot of " + p + " on " + size, it.knot(0, size, p, 0), plain.knot(0, size, p, 0));
            same("free " + p + " on " + size, it.knot(0, size, p, 1), plain.knot(0, size, p, 1));
        }
        same("weight on " + size, it.about(0, size, 0), none ? Plain.NONE : x.weight + y.weight);
        same("moved on " + size, it.about(0, size, 1), none ? Plain.NONE : x.moved + y.moved);
        same("holding on " + size, it.about(0, size, 2), none ? Plain.NONE : plain.about(0, size, 2));
        same("quarrel on " + size, it.quarrel(0, size, 0), plain.quarrel(0, size, 0));
        same("quarrel's set on " + size, it.quarrel(0, size, 1), plain.quarrel(0, size, 1));
        for (int i = 0; i < it.count(0); i++) {
            same("forced " + i + " on " + size, it.forced(0, size, i), plain.forced(0, size, i));
        }
        return wrong;
    }
}
