/**
 * One picture, many hands: points under laws told by a text, hands that change
 * the picture, and what can be asked about it. README.md tells how to use it.
 */
public final class HandsPicture {
    public static final int BAD = -1, STATE = -2, FULL = -3, NONE = -9;

    private static final int POINTS = 6, HANDS = 3, SIDE = 20, FIRST_PLACE = 5;
    private static final int TEXT_MOST = 400, LAWS_MOST = 12, WISHES_MOST = 6;
    private static final int CHANGES_MOST = 60, LINES_MOST = 8, WORDS_MOST = 12;
    private static final int WORD_WIDEST = 20, BOX_WIDEST = 80, KINDS = 5;
    private static final int X = 0, Y = 1;
    private static final int MOVE = 0, AWAY = 1, LAY = 2, BACK = 3;

    /** No STAMP is greater, for each CHANGE adds at most one to the greatest. */
    private static final int LAST_STAMP = CHANGES_MOST;

    /** So far below every sum of gaps that it stands for "no gap is asked". */
    private static final int FAR = -1000000;

    private final Reader reader = new Reader();
    private final Story story = new Story();
    private final Picture here = new Picture();
    private final Picture there = new Picture();
    private final Setting setting = new Setting();
    private final Gaps plane = new Gaps();
    private final Quarrels quarrels = new Quarrels();
    private final Lines lines = new Lines();
    private final Kinds kinds = new Kinds();
    private final Words words = new Words();
    private Laws book = new Laws();
    private Laws draft = new Laws();

    public HandsPicture() {
    }

    // ---- laws

    public int type(long v, int n) {
        if (!within(n, 1, 8)) {
            return BAD;
        }
        if (reader.length() + n > TEXT_MOST) {
            return FULL;
        }
        for (int i = n - 1; i >= 0; i--) {
            reader.append((int) (v >>> (8 * i)) & 255);
        }
        return reader.length();
    }

    public int clear() {
        int had = reader.length();
        reader.empty();
        return had;
    }

    public int laws() {
        int fault = reader.readInto(draft);
        if (fault >= 0) {
            return -10 - fault;
        }
        Laws old = book;
        book = draft;
        draft = old;
        reader.empty();
        story.forgetLaws();
        setting.forget();
        return book.size();
    }

    public int law(int i, int what) {
        if (!isLaw(i) || !within(what, 0, 5)) {
            return BAD;
        }
        return book.tell(i, what);
    }

    // ---- hands

    public int move(int hand, int point, int x, int y) {
        if (!isHand(hand) || !isPoint(point) || !isPlace(x) || !isPlace(y)) {
            return BAD;
        }
        if (story.isFull()) {
            return FULL;
        }
        setting.forget();
        return story.addMove(hand, point, x, y);
    }

    public int lay(int hand, int law, int on) {
        if (!isHand(hand) || !isLaw(law) || !within(on, 0, 1)) {
            return BAD;
        }
        if (story.isFull()) {
            return FULL;
        }
        setting.forget();
        return story.add(hand, on == 0 ? AWAY : LAY, law);
    }

    public int back(int hand, int change) {
        if (!isHand(hand) || !isChange(change) || !story.mayTakeBack(hand, change)) {
            return BAD;
        }
        if (story.isTakenBack(change)) {
            return STATE;
        }
        if (story.isFull()) {
            return FULL;
        }
        setting.forget();
        return story.addBack(hand, change);
    }

    public int join(int hand, int other) {
        if (!isHand(hand) || !isHand(other) || hand == other) {
            return BAD;
        }
        setting.forget();
        return story.meetHands(hand, other);
    }

    public int change(int i, int what) {
        if (!isChange(i) || !within(what, 0, 5)) {
            return BAD;
        }
        return story.tell(i, what);
    }

    public int sees(int hand, int change) {
        if (!isHand(hand) || !isChange(change)) {
            return BAD;
        }
        return story.isSeen(hand, change) ? 1 : 0;
    }

    public int stands(int hand, int stamp, int point, int what) {
        if (!isHand(hand) || stamp < 0 || !isPoint(point) || !within(what, X, Y)) {
            return BAD;
        }
        story.show(here, hand, stamp, book.all());
        return here.along(what)[point];
    }

    public int on(int hand, int stamp) {
        if (!isHand(hand) || stamp < 0) {
            return BAD;
        }
        story.show(here, hand, stamp, book.all());
        return here.lawsOn();
    }

    public int both(int hand) {
        return isHand(hand) ? story.doublyMoved(hand) : BAD;
    }

    public int unlike(int hand, int other) {
        if (!isHand(hand) || !isHand(other)) {
            return BAD;
        }
        story.show(here, hand, LAST_STAMP, book.all());
        story.show(there, other, LAST_STAMP, book.all());
        return here.differences(there);
    }

    // ---- settings

    public int set(int hand, int size, int point, int what) {
        if (!isHand(hand) || !isSheet(size) || !isPoint(point) || !within(what, X, Y)) {
            return BAD;
        }
        settleFor(hand, size);
        return setting.exists() ? setting.along(what)[point] : NONE;
    }

    public int about(int hand, int size, int what) {
        if (!isHand(hand) || !isSheet(size) || !within(what, 0, 2)) {
            return BAD;
        }
        settleFor(hand, size);
        if (!setting.exists()) {
            return NONE;
        }
        if (what == 2) {
            return setting.holding(book);
        }
        return what == 0 ? setting.weight() : setting.moved();
    }

    public int quarrel(int hand, int size, int what) {
        if (!isHand(hand) || !isSheet(size) || !within(what, 0, 1)) {
            return BAD;
        }
        int firm = book.firm(countingFor(hand, size));
        int fewest = quarrels.fewest(book, firm, size, POINTS);
        if (fewest == 0) {
            return NONE;
        }
        return what == 0 ? fewest : quarrels.leastSet(book, firm, size, fewest);
    }

    public int forced(int hand, int size, int law) {
        if (!isHand(hand) || !isSheet(size) || !isLaw(law)) {
            return BAD;
        }
        int counting = countingFor(hand, size);
        if ((counting >> law & 1) == 0) {
            return STATE;
        }
        return isForcedBy(law, book.firm(counting) & ~(1 << law)) ? 1 : 0;
    }

    public int knot(int hand, int size, int point, int what) {
        if (!isHand(hand) || !isSheet(size) || !isPoint(point) || !within(what, 0, 1)) {
            return BAD;
        }
        int counting = countingFor(hand, size);
        int points = book.spread(1 << point, counting);
        if (what == 0) {
            return points;
        }
        int stiffOnes = book.stiff(book.firm(counting));
        return book.heaps(points, book.ofAxis(stiffOnes, X)) + book.heaps(points, book.ofAxis(stiffOnes, Y));
    }

    // ---- lines, words

    public int line(int from, int to) {
        if (!isPoint(from) || !isPoint(to) || from == to) {
            return BAD;
        }
        return lines.isFull() ? FULL : lines.add(from, to);
    }

    public int ink(int kind, int line, int hand) {
        if (!within(kind, 0, KINDS - 1) || !isLine(line) || !isHand(hand)) {
            return BAD;
        }
        showLast(hand);
        lines.take(line, here);
        return kinds.inkOf(kind, lines.greater(), lines.lesser());
    }

    public int dots(int hand, int line) {
        if (!isHand(hand) || line != -1 && !isLine(line)) {
            return BAD;
        }
        showLast(hand);
        if (line == -1) {
            return lines.unlikeDots(here);
        }
        lines.take(line, here);
        return lines.dotCount();
    }

    public int meet(int hand, int x, int y) {
        if (!isHand(hand) || !isPlace(x) || !isPlace(y)) {
            return BAD;
        }
        showLast(hand);
        return lines.through(here, x, y);
    }

    public int word(int width) {
        if (!within(width, 1, WORD_WIDEST)) {
            return BAD;
        }
        return words.isFull() ? FULL : words.add(width);
    }

    public int rows(int box, int what) {
        if (!within(box, 1, BOX_WIDEST) || !within(what, 0, 1)) {
            return BAD;
        }
        if (!words.breakFor(box)) {
            return NONE;
        }
        return what == 0 ? words.rowCount() : words.squares();
    }

    public int row(int box, int i) {
        if (!within(box, 1, BOX_WIDEST) || i < 0) {
            return BAD;
        }
        if (!words.breakFor(box) || i >= words.rowCount()) {
            return NONE;
        }
        return words.firstOfRow(i);
    }

    public int count(int what) {
        switch (what) {
            case 0:
                return book.size();
            case 1:
                return story.size();
            case 2:
                return lines.size();
            case 3:
                return words.size();
            case 4:
                return reader.length();
            case 5:
                return story.greatestStamp();
            default:
                return BAD;
        }
    }

    public long trace() {
        return kinds.traced();
    }

    // ---- what the calls share

    private static boolean within(int value, int least, int most) {
        return value >= least && value <= most;
    }

    private static boolean isHand(int hand) {
        return within(hand, 0, HANDS - 1);
    }

    private static boolean isPoint(int point) {
        return within(point, 0, POINTS - 1);
    }

    private static boolean isPlace(int place) {
        return within(place, 0, SIDE - 1);
    }

    private static boolean isSheet(int size) {
        return within(size, 2, SIDE);
    }

    private boolean isLaw(int law) {
        return within(law, 0, book.size() - 1);
    }

    private boolean isChange(int change) {
        return within(change, 0, story.size() - 1);
    }

    private boolean isLine(int line) {
        return within(line, 0, lines.size() - 1);
    }

    private void showLast(int hand) {
        story.show(here, hand, LAST_STAMP, book.all());
    }

    private int countingFor(int hand, int size) {
        showLast(hand);
        return book.counting(here.lawsOn(), size);
    }

    private void settleFor(int hand, int size) {
        if (!setting.isOf(hand, size)) {
            int counting = countingFor(hand, size);
            setting.settle(hand, size, book, counting, here);
        }
    }

    /** The other axis is looked at first: where it can't hold, every LAW is FORCED. */
    private boolean isForcedBy(int law, int others) {
        int axis = book.axis(law);
        plane.openPlane();
        if (!plane.askAll(book, book.ofAxis(others, 1 - axis))) {
            return true;
        }
        plane.openPlane();
        return !plane.askAll(book, book.ofAxis(others, axis)) || plane.forces(book, law);
    }

    /** LAWS as rows of numbers; sets of them are bits. */
    private static final class Laws {
        private static final int RIGHT = 2, TALL = 5;
        private static final int[] AXIS = {Y, X, X, Y, X, Y};
        private static final int[] STIFF = {1, 1, 0, 0, 1, 1};

        private final int[] word = new int[LAWS_MOST];
        private final int[] first = new int[LAWS_MOST];
        private final int[] second = new int[LAWS_MOST];
        private final int[] gap = new int[LAWS_MOST];
        private final int[] weight = new int[LAWS_MOST];
        private final int[] where = new int[LAWS_MOST];
        private int firmOnes;
        private int stiffOnes;
        private int acrossOnes;
        private int size;

        int size() {
            return size;
        }

        int all() {
            return (1 << size) - 1;
        }

        void empty() {
            firmOnes = 0;
            stiffOnes = 0;
            acrossOnes = 0;
            size = 0;
        }

        /** A LAW is told in two parts, as it is read; it is one of these LAWS only once it is closed. */
        void open(int itsWeight, int itsWhere, int itsWord) {
            weight[size] = itsWeight;
            where[size] = itsWhere;
            word[size] = itsWord;
        }

        void close(int itsFirst, int itsSecond, int itsGap) {
            first[size] = itsFirst;
            second[size] = itsSecond;
            gap[size] = itsGap;
            firmOnes |= weight[size] == 0 ? 1 << size : 0;
            stiffOnes |= isStiff(size) ? 1 << size : 0;
            acrossOnes |= axis(size) == X ? 1 << size : 0;
            size++;
        }

        int tell(int i, int what) {
            switch (what) {
                case 0:
                    return word[i];
                case 1:
                    return first[i];
                case 2:
                    return second[i];
                case 3:
                    return gap[i];
                case 4:
                    return weight[i];
                default:
                    return where[i];
            }
        }

        int first(int i) {
            return first[i];
        }

        int second(int i) {
            return second[i];
        }

        int gap(int i) {
            return gap[i];
        }

        int weight(int i) {
            return weight[i];
        }

        int axis(int i) {
            return AXIS[word[i]];
        }

        boolean isStiff(int i) {
            return STIFF[word[i]] == 1;
        }

        int counting(int among, int sheet) {
            int found = 0;
            for (int i = 0; i < size; i++) {
                if (where[i] == 0 || sheet < where[i]) {
                    found |= 1 << i;
                }
            }
            return found & among;
        }

        int firm(int among) {
            return firmOnes & among;
        }

        int stiff(int among) {
            return stiffOnes & among;
        }

        int ofAxis(int among, int axis) {
            return (axis == X ? acrossOnes : ~acrossOnes) & among;
        }

        boolean holds(int i, int[] values) {
            int between = values[second[i]] - values[first[i]];
            return isStiff(i) ? between == gap[i] : between >= gap[i];
        }

        /** As many rounds as there are POINTS: a chain of LAWS is no longer. */
        int spread(int points, int by) {
            int reached = points;
            for (int round = 0; round < POINTS; round++) {
                for (int i = 0; i < size; i++) {
                    int ends = 1 << first[i] | 1 << second[i];
                    if ((by >> i & 1) == 1 && (reached & ends) != 0) {
                        reached |= ends;
                    }
                }
            }
            return reached;
        }

        int heaps(int points, int by) {
            int left = points;
            int heaps = 0;
            for (int point = 0; point < POINTS; point++) {
                if ((left >> point & 1) == 1) {
                    left &= ~spread(1 << point, by);
                    heaps++;
                }
            }
            return heaps;
        }
    }

    /** THE TEXT, and how it is read to LAWS. */
    private static final class Reader {
        private static final int END = 0, WORD = 1, LETTER = 2, NUMBER = 3, STOP = 4, WRONG = 5;
        private static final int WISH = 6, WHERE = 7;

        private final int[] text = new int[TEXT_MOST];
        private int length;
        private int next;
        private int start;
        private int token;
        private int value;
        private int wishes;

        int length() {
            return length;
        }

        void append(int code) {
            text[length] = code;
            length++;
        }

        void empty() {
            length = 0;
        }

        /** -1, or FAULT: reading stops at the TOKEN that can't stand, so that is where this starts. */
        int readInto(Laws draft) {
            draft.empty();
            wishes = 0;
            next = 0;
            advance();
            for (int i = 0; i < LAWS_MOST && token != END; i++) {
                if (!readLaw(draft)) {
                    return start;
                }
            }
            return token == END ? -1 : start;
        }

        private boolean readLaw(Laws draft) {
            int weight = 0;
            int where = 0;
            if (isWord(WISH)) {
                if (wishes == WISHES_MOST) {
                    return false;
                }
                wishes++;
                advance();
                if (!isNumber(1, 9)) {
                    return false;
                }
                weight = value;
                advance();
            }
            if (isWord(WHERE)) {
                advance();
                if (!isNumber(2, SIDE)) {
                    return false;
                }
                where = value;
                advance();
            }
            if (token != WORD || value > Laws.TALL) {
                return false;
            }
            draft.open(weight, where, value);
            return readEnds(draft, value >= Laws.RIGHT);
        }

        private boolean readEnds(Laws draft, boolean withGap) {
            advance();
            if (token != LETTER) {
                return false;
            }
            int first = value;
            advance();
            if (token != LETTER || value == first) {
                return false;
            }
            int second = value;
            int gap = 0;
            advance();
            if (withGap) {
                if (!isNumber(0, SIDE - 1)) {
                    return false;
                }
                gap = value;
                advance();
            }
            if (token != STOP) {
                return false;
            }
            draft.close(first, second, gap);
            advance();
            return true;
        }

        private boolean isWord(int number) {
            return token == WORD && value == number;
        }

        private boolean isNumber(int least, int most) {
            return token == NUMBER && within(value, least, most);
        }

        private void advance() {
            next = endOfRun(next, ' ', ' ');
            start = next;
            if (start >= length) {
                token = END;
            } else if (within(text[start], 'a', 'z')) {
                takeWord();
            } else if (within(text[start], '0', '9')) {
                takeNumber();
            } else {
                takeSign();
            }
        }

        private int endOfRun(int from, int low, int high) {
            int at = from;
            while (at < length && text[at] >= low && text[at] <= high) {
                at++;
            }
            return at;
        }

        private void takeWord() {
            next = endOfRun(start, 'a', 'z');
            value = 0;
            while (value <= WHERE && !spells(nameOf(value))) {
                value++;
            }
            token = value <= WHERE ? WORD : WRONG;
        }

        private static String nameOf(int number) {
            switch (number) {
                case 0:
                    return "level";
                case 1:
                    return "plumb";
                case 2:
                    return "right";
                case 3:
                    return "under";
                case 4:
                    return "wide";
                case 5:
                    return "tall";
                case WISH:
                    return "wish";
                default:
                    return "where";
            }
        }

        private boolean spells(String name) {
            if (next - start != name.length()) {
                return false;
            }
            for (int i = 0; i < name.length(); i++) {
                if (text[start + i] != name.charAt(i)) {
                    return false;
                }
            }
            return true;
        }

        private void takeNumber() {
            next = endOfRun(start, '0', '9');
            int digits = next - start;
            boolean zeroAhead = digits > 1 && text[start] == '0';
            if (digits > 2 || zeroAhead) {
                token = WRONG;
                return;
            }
            token = NUMBER;
            value = 0;
            for (int i = start; i < next; i++) {
                value = value * 10 + text[i] - '0';
            }
        }

        private void takeSign() {
            int code = text[start];
            next = start + 1;
            if (within(code, 'A', 'A' + POINTS - 1)) {
                token = LETTER;
                value = code - 'A';
            } else {
                token = code == ';' ? STOP : WRONG;
            }
        }
    }

    /** THE PICTURE of a HAND: where POINTS STAND, which LAWS are ON. */
    private static final class Picture {
        private final int[] xs = new int[POINTS];
        private final int[] ys = new int[POINTS];
        private final int[] movedAt = new int[POINTS];
        private final int[] laidAt = new int[LAWS_MOST];
        private int lawsOn;

        int[] along(int axis) {
            return axis == X ? xs : ys;
        }

        int lawsOn() {
            return lawsOn;
        }

        void begin(int laws) {
            for (int i = 0; i < POINTS; i++) {
                xs[i] = FIRST_PLACE;
                ys[i] = FIRST_PLACE;
                movedAt[i] = -1;
            }
            for (int i = 0; i < LAWS_MOST; i++) {
                laidAt[i] = -1;
            }
            lawsOn = laws;
        }

        /** CHANGES come in any order: the one with the greatest turn stays. */
        void place(int point, int x, int y, int turn) {
            if (turn > movedAt[point]) {
                movedAt[point] = turn;
                xs[point] = x;
                ys[point] = y;
            }
        }

        void layLaw(int law, boolean isOn, int turn) {
            if (turn > laidAt[law]) {
                laidAt[law] = turn;
                lawsOn = isOn ? lawsOn | 1 << law : lawsOn & ~(1 << law);
            }
        }

        int differences(Picture other) {
            int found = Integer.bitCount(lawsOn ^ other.lawsOn);
            for (int i = 0; i < POINTS; i++) {
                if (xs[i] != other.xs[i] || ys[i] != other.ys[i]) {
                    found++;
                }
            }
            return found;
        }
    }

    /** The CHANGES, and who SEES which of them (bits of a long, for there are 60 at most). */
    private static final class Story {
        private final int[] maker = new int[CHANGES_MOST];
        private final int[] deed = new int[CHANGES_MOST];
        private final int[] target = new int[CHANGES_MOST];
        private final int[] toX = new int[CHANGES_MOST];
        private final int[] toY = new int[CHANGES_MOST];
        private final int[] stamp = new int[CHANGES_MOST];
        private final int[] backedBy = new int[CHANGES_MOST];
        private final long[] makerSaw = new long[CHANGES_MOST];
        private final long[] seen = new long[HANDS];
        private final int[] latest = new int[HANDS];
        private int size;
        private int lawsFrom;

        int size() {
            return size;
        }

        boolean isFull() {
            return size >= CHANGES_MOST;
        }

        void forgetLaws() {
            lawsFrom = size;
        }

        int add(int hand, int itsDeed, int itsTarget) {
            int number = size;
            maker[number] = hand;
            deed[number] = itsDeed;
            target[number] = itsTarget;
            backedBy[number] = -1;
            makerSaw[number] = seen[hand];
            seen[hand] |= 1L << number;
            latest[hand]++;
            stamp[number] = latest[hand];
            size++;
            return number;
        }

        int addMove(int hand, int point, int x, int y) {
            int number = add(hand, MOVE, point);
            toX[number] = x;
            toY[number] = y;
            return number;
        }

        int addBack(int hand, int change) {
            int number = add(hand, BACK, change);
            backedBy[change] = number;
            return number;
        }

        boolean mayTakeBack(int hand, int change) {
            return maker[change] == hand && deed[change] != BACK;
        }

        boolean isTakenBack(int change) {
            return backedBy[change] >= 0;
        }

        int meetHands(int hand, int other) {
            long fresh = seen[other] & ~seen[hand];
            seen[hand] |= fresh;
            latest[hand] = Math.max(latest[hand], latest[other]);
            return Long.bitCount(fresh);
        }

        boolean isSeen(int hand, int change) {
            return (seen[hand] >>> change & 1L) == 1L;
        }

        int greatestStamp() {
            int greatest = 0;
            for (int hand = 0; hand < HANDS; hand++) {
                greatest = Math.max(greatest, latest[hand]);
            }
            return greatest;
        }

        int tell(int i, int what) {
            switch (what) {
                case 0:
                    return maker[i];
                case 1:
                    return deed[i];
                case 2:
                    return target[i];
                case 3:
                    return toX[i];
                case 4:
                    return toY[i];
                default:
                    return stamp[i];
            }
        }

        void show(Picture picture, int hand, int upTo, int laws) {
            picture.begin(laws);
            for (int i = 0; i < size; i++) {
                if (deed[i] != BACK && counts(i, hand, upTo) && !isUndone(i, hand, upTo)) {
                    apply(picture, i);
                }
            }
        }

        private boolean counts(int change, int hand, int upTo) {
            return stamp[change] <= upTo && isSeen(hand, change);
        }

        private boolean isUndone(int change, int hand, int upTo) {
            return backedBy[change] >= 0 && counts(backedBy[change], hand, upTo);
        }

        private void apply(Picture picture, int change) {
            int turn = stamp[change] * HANDS + maker[change];
            if (deed[change] == MOVE) {
                picture.place(target[change], toX[change], toY[change], turn);
            } else if (change >= lawsFrom) {
                picture.layLaw(target[change], deed[change] == LAY, turn);
            }
        }

        int doublyMoved(int hand) {
            int points = 0;
            for (int later = 1; later < size; later++) {
                if (isStandingMove(later, hand)) {
                    points |= meetsEarlier(later, hand) ? 1 << target[later] : 0;
                }
            }
            return points;
        }

        /** Only the later of two can have been made by a HAND that saw the other one. */
        private boolean meetsEarlier(int later, int hand) {
            for (int i = 0; i < later; i++) {
                boolean unseen = (makerSaw[later] >>> i & 1L) == 0L;
                if (unseen && target[i] == target[later] && maker[i] != maker[later] && isStandingMove(i, hand)) {
                    return true;
                }
            }
            return false;
        }

        private boolean isStandingMove(int change, int hand) {
            return deed[change] == MOVE && isSeen(hand, change) && !isUndone(change, hand, LAST_STAMP);
        }
    }

    /** What LAWS of one axis ask between every two POINTS: the least by which one is beyond another. */
    private static final class Gaps {
        private static final int GROUND = POINTS, NODES = POINTS + 1;

        private final int[] least = new int[NODES * NODES];

        void openPlane() {
            fillApart(FAR);
        }

        /** The GROUND is 0: all POINTS are at it or beyond, by less than the size. */
        void openSheet(int size) {
            fillApart(1 - size);
            for (int i = 0; i < POINTS; i++) {
                least[GROUND * NODES + i] = 0;
            }
        }

        private void fillApart(int apart) {
            for (int i = 0; i < NODES; i++) {
                for (int j = 0; j < NODES; j++) {
                    least[i * NODES + j] = i == j ? 0 : apart;
                }
            }
        }

        void copyFrom(Gaps other) {
            System.arraycopy(other.least, 0, least, 0, NODES * NODES);
        }

        boolean askAll(Laws book, int among) {
            for (int i = 0; i < book.size(); i++) {
                if ((among >> i & 1) == 1 && !askLaw(book, i)) {
                    return false;
                }
            }
            return true;
        }

        /** Whether the LAW can hold with all that was asked before. */
        boolean askLaw(Laws book, int i) {
            int a = book.first(i);
            int b = book.second(i);
            return ask(a, b, book.gap(i)) && (!book.isStiff(i) || ask(b, a, -book.gap(i)));
        }

        /** Keeps the gaps closed: after each one all that follows from it is there, too. */
        private boolean ask(int a, int b, int gap) {
            if (gap <= least[a * NODES + b]) {
                return true;
            }
            if (gap + least[b * NODES + a] > 0) {
                return false;
            }
            for (int i = 0; i < NODES; i++) {
                int toB = least[i * NODES + a] + gap;
                for (int j = 0; j < NODES; j++) {
                    int through = toB + least[b * NODES + j];
                    if (through > least[i * NODES + j]) {
                        least[i * NODES + j] = through;
                    }
                }
            }
            return true;
        }

        boolean forces(Laws book, int i) {
            int a = book.first(i);
            int b = book.second(i);
            boolean atLeast = least[a * NODES + b] >= book.gap(i);
            return atLeast && (!book.isStiff(i) || least[b * NODES + a] >= -book.gap(i));
        }

        int lowest(int point) {
            return least[GROUND * NODES + point];
        }

        /** POINTS that must rise by 1 as this one does (bits); the GROUND among them: it can't rise. */
        int drags(int point, int[] values) {
            int found = 1 << point;
            for (int j = 0; j < POINTS; j++) {
                if (values[point] + least[point * NODES + j] == values[j]) {
                    found |= 1 << j;
                }
            }
            if (values[point] + least[point * NODES + GROUND] == 0) {
                found |= 1 << GROUND;
            }
            return found;
        }
    }

    /** SET along one axis: no LAW binds an x to a y, so the axes are set each for itself. */
    private static final class Axis {
        private static final int SETS = 1 << POINTS;

        private final Gaps firm = new Gaps();
        private final Gaps trial = new Gaps();
        private final int[] wishes = new int[WISHES_MOST];
        private final int[] values = new int[POINTS];
        private final int[] best = new int[POINTS];
        private final int[] dragged = new int[SETS];
        private final int[] cost = new int[SETS];
        private int wishCount;
        private int bestWeight;
        private int bestMoved;

        int[] best() {
            return best;
        }

        int weight() {
            return bestWeight;
        }

        int moved() {
            return bestMoved;
        }

        boolean settle(Laws book, int counting, int size, int[] stood) {
            int firmOnes = book.firm(counting);
            firm.openSheet(size);
            if (!firm.askAll(book, firmOnes)) {
                return false;
            }
            gatherWishes(book, counting & ~firmOnes);
            bestWeight = -1;
            for (int chosen = (1 << wishCount) - 1; chosen >= 0; chosen--) {
                tryWishes(book, chosen, stood);
            }
            return true;
        }

        private void gatherWishes(Laws book, int among) {
            wishCount = 0;
            for (int i = 0; i < book.size() && wishCount < WISHES_MOST; i++) {
                if ((among >> i & 1) == 1) {
                    wishes[wishCount] = i;
                    wishCount++;
                }
            }
        }

        private void tryWishes(Laws book, int chosen, int[] stood) {
            int weight = 0;
            for (int i = 0; i < wishCount; i++) {
                weight += (chosen >> i & 1) * book.weight(wishes[i]);
            }
            if (weight < bestWeight || !canHold(book, chosen)) {
                return;
            }
            moveLeast(stood);
            int moved = distance(stood);
            if (weight > bestWeight || moved < bestMoved || moved == bestMoved && comesFirst()) {
                bestWeight = weight;
                bestMoved = moved;
                System.arraycopy(values, 0, best, 0, POINTS);
            }
        }

        private boolean canHold(Laws book, int chosen) {
            trial.copyFrom(firm);
            for (int i = 0; i < wishCount; i++) {
                if ((chosen >> i & 1) == 1 && !trial.askLaw(book, wishes[i])) {
                    return false;
                }
            }
            return true;
        }

        /**
         * From the lowest values upward, by the best set of POINTS that can rise together: what is
         * moved is an L-natural-convex function of the values, so where no set is better, none is
         * anywhere; and with the least best set each time the lowest of all best values is reached,
         * which is the first of them, too.
         */
        private void moveLeast(int[] stood) {
            for (int i = 0; i < POINTS; i++) {
                values[i] = trial.lowest(i);
            }
            for (int step = 0; step < POINTS * SIDE; step++) {
                int rising = bestRise(stood);
                if (rising == 0) {
                    return;
                }
                for (int i = 0; i < POINTS; i++) {
                    values[i] += rising >> i & 1;
                }
            }
        }

        private int bestRise(int[] stood) {
            for (int i = 0; i < POINTS; i++) {
                dragged[1 << i] = trial.drags(i, values);
                cost[1 << i] = values[i] < stood[i] ? -1 : 1;
            }
            int rising = 0;
            int least = 0;
            for (int set = 1; set < SETS; set++) {
                int low = set & -set;
                int rest = set ^ low;
                if (rest != 0) {
                    dragged[set] = dragged[rest] | dragged[low];
                    cost[set] = cost[rest] + cost[low];
                }
                if (cost[set] < least && dragged[set] == set) {
                    least = cost[set];
                    rising = set;
                }
            }
            return rising;
        }

        private int distance(int[] stood) {
            int sum = 0;
            for (int i = 0; i < POINTS; i++) {
                sum += Math.abs(values[i] - stood[i]);
            }
            return sum;
        }

        private boolean comesFirst() {
            for (int i = 0; i < POINTS; i++) {
                if (values[i] != best[i]) {
                    return values[i] < best[i];
                }
            }
            return false;
        }
    }

    /** The last SET that was asked for, kept until something changes: one SET is asked many times. */
    private static final class Setting {
        private final Axis across = new Axis();
        private final Axis down = new Axis();
        private int hand = -1;
        private int size;
        private int counting;
        private boolean exists;

        void forget() {
            hand = -1;
        }

        boolean isOf(int itsHand, int itsSize) {
            return hand == itsHand && size == itsSize;
        }

        void settle(int itsHand, int itsSize, Laws book, int itsCounting, Picture picture) {
            hand = itsHand;
            size = itsSize;
            counting = itsCounting;
            exists = across.settle(book, book.ofAxis(counting, X), size, picture.along(X))
                    && down.settle(book, book.ofAxis(counting, Y), size, picture.along(Y));
        }

        boolean exists() {
            return exists;
        }

        int[] along(int axis) {
            return axis == X ? across.best() : down.best();
        }

        int weight() {
            return across.weight() + down.weight();
        }

        int moved() {
            return across.moved() + down.moved();
        }

        int holding(Laws book) {
            int found = 0;
            for (int i = 0; i < book.size(); i++) {
                if ((counting >> i & 1) == 1 && book.holds(i, along(book.axis(i)))) {
                    found |= 1 << i;
                }
            }
            return found;
        }
    }

    /**
     * QUARRELS: the fewest LAWS that can't hold together are a walk from POINT to POINT, along one
     * axis, that comes back beyond where it began, or goes farther than the SHEET does.
     */
    private static final class Quarrels {
        private int[] farthest = new int[POINTS * POINTS];
        private int[] longer = new int[POINTS * POINTS];

        /** How many LAWS, most or fewer; 0: none. No such walk needs more LAWS than there are POINTS. */
        int fewest(Laws book, int pool, int size, int most) {
            int across = shortest(book, book.ofAxis(pool, X), size, most);
            int down = shortest(book, book.ofAxis(pool, Y), size, across == 0 ? most : across);
            return down == 0 ? across : down;
        }

        /** The least set as a number has no high LAW that it can do without. */
        int leastSet(Laws book, int pool, int size, int many) {
            int kept = pool;
            for (int i = LAWS_MOST - 1; i >= 0; i--) {
                int without = kept & ~(1 << i);
                if (without != kept && fewest(book, without, size, many) != 0) {
                    kept = without;
                }
            }
            return kept;
        }

        private int shortest(Laws book, int pool, int size, int most) {
            if (pool == 0) {
                return 0;
            }
            for (int i = 0; i < POINTS * POINTS; i++) {
                farthest[i] = i % (POINTS + 1) == 0 ? 0 : FAR;
            }
            for (int many = 1; many <= most; many++) {
                goOn(book, pool);
                if (isTooFar(size)) {
                    return many;
                }
            }
            return 0;
        }

        private void goOn(Laws book, int pool) {
            for (int i = 0; i < POINTS * POINTS; i++) {
                longer[i] = FAR;
            }
            for (int i = 0; i < book.size(); i++) {
                if ((pool >> i & 1) == 1) {
                    walk(book.first(i), book.second(i), book.gap(i));
                    if (book.isStiff(i)) {
                        walk(book.second(i), book.first(i), -book.gap(i));
                    }
                }
            }
            int[] shorter = farthest;
            farthest = longer;
            longer = shorter;
        }

        private void walk(int from, int to, int gap) {
            for (int start = 0; start < POINTS; start++) {
                int reached = farthest[start * POINTS + from] + gap;
                if (reached > longer[start * POINTS + to]) {
                    longer[start * POINTS + to] = reached;
                }
            }
        }

        private boolean isTooFar(int size) {
            for (int i = 0; i < POINTS * POINTS; i++) {
                int limit = i % (POINTS + 1) == 0 ? 0 : size - 1;
                if (farthest[i] > limit) {
                    return true;
                }
            }
            return false;
        }
    }

    /** LINES; one at a time is taken, with where its POINTS STAND. */
    private static final class Lines {
        private final int[] from = new int[LINES_MOST];
        private final int[] to = new int[LINES_MOST];
        private final int[] board = new int[SIDE];
        private int size;
        private int startX;
        private int startY;
        private int stepX;
        private int stepY;

        int size() {
            return size;
        }

        boolean isFull() {
            return size >= LINES_MOST;
        }

        int add(int start, int end) {
            from[size] = start;
            to[size] = end;
            size++;
            return size - 1;
        }

        void take(int number, Picture picture) {
            int[] xs = picture.along(X);
            int[] ys = picture.along(Y);
            startX = xs[from[number]];
            startY = ys[from[number]];
            stepX = xs[to[number]] - startX;
            stepY = ys[to[number]] - startY;
        }

        int greater() {
            return Math.max(Math.abs(stepX), Math.abs(stepY));
        }

        int lesser() {
            return Math.min(Math.abs(stepX), Math.abs(stepY));
        }

        /** Each DOT is one farther than the last along the greater difference: none is double. */
        int dotCount() {
            return greater() + 1;
        }

        int unlikeDots(Picture picture) {
            for (int x = 0; x < SIDE; x++) {
                board[x] = 0;
            }
            for (int number = 0; number < size; number++) {
                take(number, picture);
                drawTaken();
            }
            int found = 0;
            for (int x = 0; x < SIDE; x++) {
                found += Integer.bitCount(board[x]);
            }
            return found;
        }

        private void drawTaken() {
            int length = greater();
            for (int t = 0; t <= length; t++) {
                board[startX + part(t, stepX, length)] |= 1 << startY + part(t, stepY, length);
            }
        }

        int through(Picture picture, int x, int y) {
            int found = 0;
            for (int number = 0; number < size; number++) {
                take(number, picture);
                if (takenHas(x, y)) {
                    found++;
                }
            }
            return found;
        }

        private boolean takenHas(int x, int y) {
            int length = greater();
            for (int t = 0; t <= length; t++) {
                if (startX + part(t, stepX, length) == x && startY + part(t, stepY, length) == y) {
                    return true;
                }
            }
            return false;
        }

        /** Halves go to the greater number, below 0 too. */
        private static int part(int t, int step, int length) {
            return length == 0 ? 0 : Math.floorDiv(2 * t * step + length, 2 * length);
        }
    }

    /** INK by KINDS: each body asks the one of the KIND above, and leaves its number in THE TRACE. */
    private static final class Kinds {
        private int greater;
        private int lesser;
        private long traced;

        long traced() {
            return traced;
        }

        int inkOf(int kind, int itsGreater, int itsLesser) {
            greater = itsGreater;
            lesser = itsLesser;
            switch (kind) {
                case 0:
                    return partInk();
                case 1:
                    return lineInk();
                case 2:
                    return arcInk();
                case 3:
                    return dashInk();
                default:
                    return useInk();
            }
        }

        private int partInk() {
            traced += 1;
            return 1;
        }

        private int lineInk() {
            traced += 10;
            return partInk() + greater;
        }

        private int arcInk() {
            traced += 100;
            return lineInk() + lesser;
        }

        private int dashInk() {
            traced += 1000;
            return (lineInk() + 1) / 2;
        }

        private int useInk() {
            traced += 10000;
            return 2 * arcInk();
        }
    }

    /** WORDS, and how they are broken to rows. */
    private static final class Words {
        private final int[] width = new int[WORDS_MOST];
        private final int[] least = new int[WORDS_MOST + 1];
        private final int[] nextRow = new int[WORDS_MOST];
        private int size;

        int size() {
            return size;
        }

        boolean isFull() {
            return size >= WORDS_MOST;
        }

        int add(int itsWidth) {
            width[size] = itsWidth;
            size++;
            return size;
        }

        /** Backward: rows from a WORD on are the same, whatever rows came before it. */
        boolean breakFor(int box) {
            least[size] = 0;
            for (int first = size - 1; first >= 0; first--) {
                if (width[first] > box) {
                    return false;
                }
                breakFrom(first, box);
            }
            return true;
        }

        private void breakFrom(int first, int box) {
            int left = box - width[first];
            least[first] = left * left + least[first + 1];
            nextRow[first] = first + 1;
            if (first + 1 == size) {
                least[first] = 0;
            }
            for (int last = first + 1; last < size && left > width[last]; last++) {
                left -= 1 + width[last];
                int squares = last + 1 == size ? 0 : left * left + least[last + 1];
                if (squares <= least[first]) {
                    least[first] = squares;
                    nextRow[first] = last + 1;
                }
            }
        }

        int squares() {
            return least[0];
        }

        int rowCount() {
            int rows = 0;
            for (int at = 0; at < size && rows < WORDS_MOST; at = nextRow[at]) {
                rows++;
            }
            return rows;
        }

        int firstOfRow(int number) {
            int at = 0;
            for (int i = 0; i < number && at < size; i++) {
                at = nextRow[at];
            }
            return at;
        }
    }
}
