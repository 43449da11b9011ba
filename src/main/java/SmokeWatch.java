import java.util.Arrays;

/** A watch over a wood: towers, a log of sightings, fires and crews. README.md says how it is used. */
public final class SmokeWatch {
    public static final int NONE = -1;

    private static final int ROWS = 16;
    private static final int SQUARES = 256;
    private static final int TOWERS = 8;
    private static final int PLACES = 60;
    private static final int FIRES = 20;
    private static final int CREWS = 8;
    private static final int ACTS = 50;
    private static final int GROUPED = 10;

    private static final int BEARING = 0;
    private static final int SHORT = 1;
    private static final int FAINT = 2;
    private static final int GLOW = 3;
    private static final int REPORT = 4;
    private static final int REMARK = 5;
    private static final int NOTHING = 6;

    private static final int BURNS = 0;
    private static final int OUT = 1;
    private static final int GONE = 2;

    private static final int MADE = 0;
    private static final int CLEARED = 1;
    private static final int JOINED = 2;
    private static final int BEGUN = 3;
    private static final int LEFT = 4;
    private static final int WENT_OUT = 5;
    private static final int CAME = 6;
    private static final int MOVED = 7;

    private static final int ONE_BITS = 0x3F800000;
    private static final int MINUS_ZERO_BITS = 0x80000000;

    private static final int DIRECTIONS = 8;
    private static final int LOOK_SIDE = 41;
    private static final int[] LOOK_DOWN = {-1, -1, 0, 1, 1, 1, 0, -1};
    private static final int[] LOOK_RIGHT = {0, 1, 1, 1, 0, -1, -1, -1};

    private final Wood wood;
    private final Towers towers;
    private final LogBook book;
    private final Fires fires;
    private final Ways ways;
    private final Crews crews;
    private final History history;
    private final Groups groups;
    private final SquareSet common;

    public SmokeWatch() {
        wood = new Wood();
        towers = new Towers(wood);
        book = new LogBook();
        fires = new Fires(book);
        ways = new Ways(wood);
        crews = new Crews();
        history = new History();
        groups = new Groups();
        common = new SquareSet();
    }

    public boolean row(int r, int n, int height, int minutes) {
        if (r < 0 || r >= ROWS || n < 0 || n > ROWS) {
            return false;
        }
        if (n > 0 && !isTold(height, minutes)) {
            return false;
        }
        wood.layRow(r, n, height, minutes);
        towers.takeAway();
        book.takeAway();
        fires.takeAway();
        crews.takeAway();
        history.takeAway();
        ways.forget();
        return true;
    }

    public boolean square(int r, int c, int height, int minutes) {
        int q = wood.numberOf(r, c);
        if (q == NONE || !isTold(height, minutes)) {
            return false;
        }
        if (book.used() > 0 || fires.ever() > 0 || crews.number() > 0) {
            return false;
        }
        wood.shape(q, height, minutes);
        towers.forget();
        ways.forget();
        return true;
    }

    public int tower(int r, int c, int height) {
        int q = wood.numberOf(r, c);
        if (q == NONE || height < 0 || height > 100 || book.used() > 0) {
            return NONE;
        }
        return towers.build(q, height);
    }

    public int see(int t, int r, int c) {
        int q = wood.numberOf(r, c);
        if (q == NONE || !towers.isOne(t)) {
            return NONE;
        }
        return wood.firstHider(towers.base(t), towers.above(t), q) == NONE ? 1 : 0;
    }

    public int hidden(int t, int r, int c) {
        int q = wood.numberOf(r, c);
        if (q == NONE || !towers.isOne(t)) {
            return NONE;
        }
        return wood.firstHider(towers.base(t), towers.above(t), q);
    }

    public int sight(int kind, int t, int minute, int down, int right, int side, int reach, int haze) {
        if (kind < BEARING || kind > GLOW || !towers.isOne(t)) {
            return NONE;
        }
        if (!isAimed(minute, down, right, side) || !hasReachTold(kind, reach, haze)) {
            return NONE;
        }
        int i = book.firstFree();
        if (i == NONE) {
            return NONE;
        }
        int left = reachLeft(kind, reach, haze);
        SquareSet has = new SquareSet();
        wood.fillCone(has, towers.base(t), down, right, side, left);
        if (kind != GLOW) {
            has.keepOnly(towers.seenBy(t));
        }
        enter(i, new Entry(kind, minute, t, left, has));
        return i;
    }

    public int report(int r, int c, int minute, int down, int right, int side) {
        int q = wood.numberOf(r, c);
        int i = book.firstFree();
        if (q == NONE || i == NONE || !isAimed(minute, down, right, side)) {
            return NONE;
        }
        SquareSet has = new SquareSet();
        wood.fillCone(has, q, down, right, side, NONE);
        enter(i, new Entry(REPORT, minute, NONE, NONE, has));
        return i;
    }

    public int remark(int v) {
        int i = book.firstFree();
        if (i == NONE) {
            return NONE;
        }
        enter(i, new Entry(REMARK, v, NONE, NONE, null));
        return i;
    }

    public boolean clear(int i) {
        Entry e = book.entryAt(i);
        if (e == null || book.fireOf(i) != NONE) {
            return false;
        }
        book.put(i, null);
        history.keep(CLEARED, i, NONE, e);
        return true;
    }

    public int log(int i, int what) {
        if (i < 0 || i >= PLACES) {
            return NONE;
        }
        Entry e = book.entryAt(i);
        if (e == null) {
            return what == 0 ? NOTHING : NONE;
        }
        if (what == 0) {
            return e.kind;
        }
        if (what == 1) {
            return e.number;
        }
        return e.isSighting() ? tellOfSighting(i, e, what) : NONE;
    }

    public int squares(int i, int k) {
        SquareSet has = book.squaresOf(i);
        return has == null ? NONE : has.atRank(k);
    }

    public boolean join(int i, int f) {
        if (f < 0 || f >= FIRES || (fires.fitting(i) >> f & 1) == 0) {
            return false;
        }
        unite(i, f);
        return true;
    }

    public int begin(int i) {
        SquareSet has = book.squaresOf(i);
        if (has == null || has.isEmpty() || book.fireOf(i) != NONE) {
            return NONE;
        }
        int f = fires.kindle(has);
        if (f == NONE) {
            return NONE;
        }
        book.putFire(i, f);
        fires.renew(f);
        history.keep(BEGUN, i, f, null);
        return f;
    }

    public boolean apart(int i) {
        int f = book.fireOf(i);
        if (f == NONE || fires.stateOf(f) != BURNS) {
            return false;
        }
        book.putFire(i, NONE);
        fires.renew(f);
        history.keep(LEFT, i, f, null);
        return true;
    }

    public int office() {
        int joins = 0;
        for (int n = 0; n < PLACES; n++) {
            int i = firstOfOneFit();
            if (i == NONE) {
                break;
            }
            unite(i, lowestBit(fires.fitting(i)));
            joins++;
        }
        return joins;
    }

    public boolean out(int f) {
        if (fires.stateOf(f) != BURNS) {
            return false;
        }
        fires.putOut(f, true);
        history.keep(WENT_OUT, f, NONE, null);
        return true;
    }

    public int fire(int f, int what) {
        if (!fires.isOne(f)) {
            return NONE;
        }
        switch (what) {
            case 0:
                return fires.stateOf(f);
            case 1:
                return fires.membersOf(f);
            case 2:
                return fires.patchOf(f).size();
            case 3:
                return fires.middleOf(f);
            case 4:
                return fires.againOf(f);
            default:
                return NONE;
        }
    }

    public int patch(int f, int k) {
        return fires.isOne(f) ? fires.patchOf(f).atRank(k) : NONE;
    }

    public int fewest(int from, int to) {
        groups.start();
        for (int i = 0; i < PLACES; i++) {
            Entry e = book.entryAt(i);
            if (e != null && e.isSighting() && e.number >= from && e.number <= to && !groups.take(e)) {
                return NONE;
            }
        }
        return groups.least();
    }

    public int next(int f) {
        if (fires.stateOf(f) != BURNS) {
            return NONE;
        }
        SquareSet whole = fires.patchOf(f);
        int size = whole.size();
        int found = NONE;
        int least = SQUARES + 1;
        for (int t = 0; t < towers.number(); t++) {
            common.copyFrom(whole);
            common.keepOnly(towers.seenBy(t));
            for (int d = 0; d < DIRECTIONS; d++) {
                int has = wood.countInCone(common, towers.base(t), LOOK_DOWN[d], LOOK_RIGHT[d], LOOK_SIDE);
                int greater = Math.max(has, size - has);
                if (greater < least) {
                    least = greater;
                    found = DIRECTIONS * t + d;
                }
            }
        }
        return found;
    }

    public int crew(int r, int c) {
        int q = wood.numberOf(r, c);
        int k = q == NONE ? NONE : crews.come(q);
        if (k != NONE) {
            history.keep(CAME, k, NONE, null);
        }
        return k;
    }

    public boolean move(int k, int r, int c) {
        int q = wood.numberOf(r, c);
        if (q == NONE || !crews.isOne(k)) {
            return false;
        }
        int old = crews.standsAt(k);
        ways.leadTo(q);
        if (ways.minutesFrom(old) == NONE) {
            return false;
        }
        crews.stand(k, q);
        history.keep(MOVED, k, old, null);
        return true;
    }

    public int place(int k) {
        return crews.standsAt(k);
    }

    public int minutes(int k, int r, int c) {
        int q = wood.numberOf(r, c);
        if (q == NONE || !crews.isOne(k)) {
            return NONE;
        }
        ways.leadTo(q);
        return ways.minutesFrom(crews.standsAt(k));
    }

    public int way(int k, int r, int c, int i) {
        int q = wood.numberOf(r, c);
        if (q == NONE || !crews.isOne(k)) {
            return NONE;
        }
        ways.leadTo(q);
        return ways.stepFrom(crews.standsAt(k), i);
    }

    public int send() {
        int burning = fires.burning();
        if (burning == 0 || burning > crews.number()) {
            return NONE;
        }
        crews.startSending();
        for (int f = 0; f < fires.ever(); f++) {
            if (fires.stateOf(f) == BURNS) {
                ways.leadTo(fires.middleOf(f));
                crews.ask(f, ways);
            }
        }
        return crews.assign();
    }

    public int sent(int f) {
        return crews.givenTo(f);
    }

    public int blinds() {
        return towers.unseen().size();
    }

    public int blind(int k) {
        return towers.unseen().atRank(k);
    }

    public int best() {
        return towers.bestNew();
    }

    public boolean claim(int i, int f) {
        if (i < 0 || i >= PLACES || f < NONE || f >= PLACES) {
            return false;
        }
        book.say(i, f);
        return true;
    }

    public int check() {
        for (int i = 0; i < PLACES; i++) {
            if (book.saidOf(i) != NONE && book.squaresOf(i) != null && isWronglySaid(i)) {
                return i;
            }
        }
        return NONE;
    }

    public boolean undo() {
        if (!history.takeLast()) {
            return false;
        }
        int which = history.which();
        int old = history.old();
        switch (history.act()) {
            case MADE:
                book.put(which, null);
                break;
            case CLEARED:
                book.put(which, history.entry());
                break;
            case JOINED:
                book.putFire(which, NONE);
                fires.renew(old);
                break;
            case BEGUN:
                book.putFire(which, NONE);
                fires.forgetLast();
                break;
            case LEFT:
                book.putFire(which, old);
                fires.renew(old);
                break;
            case WENT_OUT:
                fires.putOut(which, false);
                break;
            case CAME:
                crews.forgetLast();
                break;
            default:
                crews.stand(which, old);
                break;
        }
        return true;
    }

    public int count(int what) {
        switch (what) {
            case 0:
                return towers.number();
            case 1:
                return book.used();
            case 2:
                return fires.ever();
            case 3:
                return crews.number();
            case 4:
                return history.size();
            case 5:
                return wood.there().size();
            default:
                return NONE;
        }
    }

    private static boolean isTold(int height, int minutes) {
        return height >= -1000 && height <= 3000 && minutes >= 1 && minutes <= 60;
    }

    private static boolean isAimed(int minute, int down, int right, int side) {
        if (minute < 0 || minute > 9999 || side < 0 || side > 400) {
            return false;
        }
        if (down < -50 || down > 50 || right < -50 || right > 50) {
            return false;
        }
        return down != 0 || right != 0;
    }

    private static boolean hasReachTold(int kind, int reach, int haze) {
        if (kind != SHORT && kind != FAINT) {
            return true;
        }
        if (reach < 1 || reach > 40) {
            return false;
        }
        return kind == SHORT || isHaze(haze);
    }

    /** The bits of the floats 0 to 1 rise with them; minus zero, whose bits are apart, is 0 too. */
    private static boolean isHaze(int bits) {
        return bits >= 0 && bits <= ONE_BITS || bits == MINUS_ZERO_BITS;
    }

    private static int reachLeft(int kind, int reach, int haze) {
        if (kind == SHORT) {
            return reach;
        }
        if (kind != FAINT) {
            return NONE;
        }
        int h = (int) (floatOf(haze) * 100f);
        return reach - reach * h / 100;
    }

    /** The float of 0 to 1 that has these bits, by halvings, which lose nothing here. */
    private static float floatOf(int bits) {
        int exponent = bits >> 23 & 255;
        int part = bits & 0x7FFFFF;
        if (exponent > 0) {
            part |= 0x800000;
        } else {
            exponent = 1;
        }
        float value = (float) part;
        for (int n = exponent; n < 150; n++) {
            value = value * 0.5f;
        }
        return value;
    }

    private void enter(int i, Entry e) {
        book.put(i, e);
        history.keep(MADE, i, NONE, null);
    }

    private int tellOfSighting(int i, Entry e, int what) {
        switch (what) {
            case 2:
                return e.tower;
            case 3:
                return e.has == null ? NONE : e.has.size();
            case 4:
                return book.fireOf(i);
            case 5:
                return e.reach;
            case 6:
                return Integer.bitCount(fires.fitting(i));
            default:
                return NONE;
        }
    }

    private void unite(int i, int f) {
        book.putFire(i, f);
        fires.renew(f);
        history.keep(JOINED, i, f, null);
    }

    private int firstOfOneFit() {
        for (int i = 0; i < PLACES; i++) {
            if (Integer.bitCount(fires.fitting(i)) == 1) {
                return i;
            }
        }
        return NONE;
    }

    private static int lowestBit(int bits) {
        for (int f = 0; f < FIRES; f++) {
            if ((bits >> f & 1) != 0) {
                return f;
            }
        }
        return NONE;
    }

    private boolean isWronglySaid(int i) {
        common.fill();
        common.keepOnly(book.squaresOf(i));
        Entry e = book.entryAt(i);
        for (int j = 0; j < i; j++) {
            Entry ahead = book.entryAt(j);
            if (ahead != null && ahead.isSighting() && book.saidOf(j) == book.saidOf(i)) {
                if (ahead.clashesWith(e)) {
                    return true;
                }
                common.keepOnly(ahead.has);
            }
        }
        return common.isEmpty();
    }

    /** A set of squares by their numbers, a bit each, so that patches meet word by word. */
    private static final class SquareSet {
        private static final int WORDS = 4;
        private static final int BITS = 64;

        private final long[] words = new long[WORDS];

        void empty() {
            Arrays.fill(words, 0L);
        }

        void fill() {
            Arrays.fill(words, -1L);
        }

        void copyFrom(SquareSet other) {
            fill();
            keepOnly(other);
        }

        void put(int q) {
            if (q >= 0 && q < SQUARES) {
                words[q >> 6] |= 1L << (q & 63);
            }
        }

        void drop(int q) {
            if (q >= 0 && q < SQUARES) {
                words[q >> 6] &= ~(1L << (q & 63));
            }
        }

        boolean has(int q) {
            return q >= 0 && q < SQUARES && (words[q >> 6] >> (q & 63) & 1L) != 0L;
        }

        void keepOnly(SquareSet other) {
            for (int w = 0; w < WORDS; w++) {
                words[w] &= other == null ? 0L : other.words[w];
            }
        }

        void takeOut(SquareSet other) {
            for (int w = 0; w < WORDS; w++) {
                words[w] &= other == null ? -1L : ~other.words[w];
            }
        }

        boolean meets(SquareSet other) {
            for (int w = 0; w < WORDS; w++) {
                if (other != null && (words[w] & other.words[w]) != 0L) {
                    return true;
                }
            }
            return false;
        }

        boolean isEmpty() {
            return !meets(this);
        }

        int size() {
            int n = 0;
            for (int w = 0; w < WORDS; w++) {
                n += Long.bitCount(words[w]);
            }
            return n;
        }

        /** The k-th number of the set, rising. */
        int atRank(int k) {
            int left = k;
            for (int w = 0; w < WORDS && left >= 0; w++) {
                int n = Long.bitCount(words[w]);
                if (left < n) {
                    return BITS * w + bitAtRank(words[w], left);
                }
                left -= n;
            }
            return NONE;
        }

        private static int bitAtRank(long word, int k) {
            int left = k;
            for (int b = 0; b < BITS; b++) {
                if ((word >> b & 1L) != 0L) {
                    if (left == 0) {
                        return b;
                    }
                    left--;
                }
            }
            return 0;
        }
    }

    /** The rows and squares, what lies on a line of sight, and what a step costs. */
    private static final class Wood {
        private final int[] heights = new int[SQUARES];
        private final int[] stepMinutes = new int[SQUARES];
        private final SquareSet there = new SquareSet();

        void layRow(int r, int n, int height, int minutes) {
            for (int c = 0; c < ROWS; c++) {
                int q = ROWS * r + c;
                if (c < n) {
                    there.put(q);
                    shape(q, height, minutes);
                } else {
                    there.drop(q);
                }
            }
        }

        void shape(int q, int height, int minutes) {
            if (q >= 0 && q < SQUARES) {
                heights[q] = height;
                stepMinutes[q] = minutes;
            }
        }

        SquareSet there() {
            return there;
        }

        int numberOf(int r, int c) {
            if (r < 0 || r >= ROWS || c < 0 || c >= ROWS) {
                return NONE;
            }
            int q = ROWS * r + c;
            return there.has(q) ? q : NONE;
        }

        int heightOf(int q) {
            return q >= 0 && q < SQUARES ? heights[q] : 0;
        }

        /** What a step between two squares that are side by side takes. */
        int stepCost(int from, int to) {
            int base = to >= 0 && to < SQUARES ? stepMinutes[to] : 0;
            int higher = heightOf(to) - heightOf(from);
            return higher > 0 ? base + higher / 10 : base;
        }

        /** The square beside by number rising (0 up, 1 left, 2 right, 3 down), if it is there. */
        int beside(int q, int side) {
            int r = q >> 4;
            int c = q & 15;
            switch (side) {
                case 0:
                    return numberOf(r - 1, c);
                case 1:
                    return numberOf(r, c - 1);
                case 2:
                    return numberOf(r, c + 1);
                default:
                    return numberOf(r + 1, c);
            }
        }

        /**
         * The first square on the line from an eye that is missing or hides; NONE: it is SEEN.
         * Walks the line square by square. Where the line is, is told in parts of `whole`, in
         * which every border that it crosses falls on a whole number: so no fraction is rounded.
         */
        int firstHider(int from, int above, int to) {
            int down = (to >> 4) - (from >> 4);
            int right = (to & 15) - (from & 15);
            int rows = Math.abs(down);
            int columns = Math.abs(right);
            int rowPart = Math.max(columns, 1);
            int columnPart = Math.max(rows, 1);
            int whole = 2 * rowPart * columnPart;
            int eye = heightOf(from) + above;
            int rise = heightOf(to) - eye;
            int i = 0;
            int j = 0;
            int in = 0;
            for (int n = 0; n < 2 * ROWS; n++) {
                int rowBorder = i < rows ? (2 * i + 1) * rowPart : whole;
                int columnBorder = j < columns ? (2 * j + 1) * columnPart : whole;
                int out = Math.min(rowBorder, columnBorder);
                if (n > 0) {
                    int q = ROWS * ((from >> 4) + (down < 0 ? -i : i)) + (from & 15) + (right < 0 ? -j : j);
                    if (q == to) {
                        return NONE;
                    }
                    int low = eye * whole + rise * (rise < 0 ? out : in);
                    if (!there.has(q) || heightOf(q) * whole >= low) {
                        return q;
                    }
                }
                i += rowBorder == out && i < rows ? 1 : 0;
                j += columnBorder == out && j < columns ? 1 : 0;
                in = out;
            }
            return NONE;
        }

        /** The squares in a direction; a reach of NONE is no bound. */
        void fillCone(SquareSet into, int from, int down, int right, int side, int reach) {
            into.empty();
            for (int q = 0; q < SQUARES; q++) {
                int vDown = (q >> 4) - (from >> 4);
                int vRight = (q & 15) - (from & 15);
                boolean near = reach == NONE || vDown * vDown + vRight * vRight <= reach * reach;
                if (near && there.has(q) && isInCone(from, q, down, right, side)) {
                    into.put(q);
                }
            }
        }

        int countInCone(SquareSet of, int from, int down, int right, int side) {
            int n = 0;
            for (int q = 0; q < SQUARES; q++) {
                if (of.has(q) && isInCone(from, q, down, right, side)) {
                    n++;
                }
            }
            return n;
        }

        private static boolean isInCone(int from, int q, int down, int right, int side) {
            int vDown = (q >> 4) - (from >> 4);
            int vRight = (q & 15) - (from & 15);
            int along = vDown * down + vRight * right;
            int across = vDown * right - vRight * down;
            return along > 0 && 100 * Math.abs(across) <= side * along;
        }
    }

    /** The towers and what they see, kept until the wood or the towers change. */
    private static final class Towers {
        private static final int NEW_HEIGHT = 10;
        private static final int UNKNOWN = -2;

        private final Wood wood;
        private final int[] bases = new int[TOWERS];
        private final int[] aboves = new int[TOWERS];
        private final boolean[] known = new boolean[TOWERS];
        private final SquareSet[] seen = new SquareSet[TOWERS];
        private final SquareSet nothing = new SquareSet();
        private final SquareSet unseen = new SquareSet();
        private boolean unseenKnown;
        private int bestKnown = UNKNOWN;
        private int number;

        Towers(Wood wood) {
            this.wood = wood;
            for (int t = 0; t < TOWERS; t++) {
                seen[t] = new SquareSet();
            }
        }

        int number() {
            return number;
        }

        boolean isOne(int t) {
            return t >= 0 && t < number && t < TOWERS;
        }

        int base(int t) {
            return isOne(t) ? bases[t] : NONE;
        }

        int above(int t) {
            return isOne(t) ? aboves[t] : NONE;
        }

        void takeAway() {
            number = 0;
            forget();
        }

        void forget() {
            for (int t = 0; t < TOWERS; t++) {
                known[t] = false;
            }
            forgetUnseen();
        }

        private void forgetUnseen() {
            unseenKnown = false;
            bestKnown = UNKNOWN;
        }

        int build(int q, int height) {
            if (number < 0 || number >= TOWERS) {
                return NONE;
            }
            bases[number] = q;
            aboves[number] = height;
            known[number] = false;
            forgetUnseen();
            number++;
            return number - 1;
        }

        SquareSet seenBy(int t) {
            if (!isOne(t) || seen[t] == null) {
                return nothing;
            }
            if (!known[t]) {
                look(seen[t], bases[t], aboves[t]);
                known[t] = true;
            }
            return seen[t];
        }

        private void look(SquareSet into, int from, int above) {
            into.empty();
            for (int q = 0; q < SQUARES; q++) {
                if (wood.there().has(q) && wood.firstHider(from, above, q) == NONE) {
                    into.put(q);
                }
            }
        }

        SquareSet unseen() {
            if (!unseenKnown) {
                unseen.copyFrom(wood.there());
                for (int t = 0; t < number; t++) {
                    unseen.takeOut(seenBy(t));
                }
                unseenKnown = true;
            }
            return unseen;
        }

        int bestNew() {
            if (bestKnown != UNKNOWN) {
                return bestKnown;
            }
            int blind = unseen().size();
            int most = 0;
            bestKnown = NONE;
            for (int q = 0; q < SQUARES; q++) {
                int n = wood.there().has(q) ? countNew(q, blind, most) : 0;
                if (n > most) {
                    most = n;
                    bestKnown = q;
                }
            }
            return bestKnown;
        }

        /** How many of the blind squares would be seen from q; stops once `most` can't be passed any more. */
        private int countNew(int q, int blind, int most) {
            int n = 0;
            int left = blind;
            for (int k = 0; k < SQUARES && n + left > most; k++) {
                if (unseen.has(k)) {
                    left--;
                    n += wood.firstHider(q, NEW_HEIGHT, k) == NONE ? 1 : 0;
                }
            }
            return n;
        }
    }

    /** What a place of the log has: a sighting or a remark; it never changes once made. */
    private static final class Entry {
        final int kind;
        final int number;
        final int tower;
        final int reach;
        final SquareSet has;

        Entry(int kind, int number, int tower, int reach, SquareSet has) {
            this.kind = kind;
            this.number = number;
            this.tower = tower;
            this.reach = reach;
            this.has = has;
        }

        boolean isSighting() {
            return kind != REMARK;
        }

        boolean clashesWith(Entry other) {
            return other != null && tower != NONE && tower == other.tower && number == other.number;
        }
    }

    /** The places of the log, the fires that they are joined to, and what is claimed of them. */
    private static final class LogBook {
        private final Entry[] entries = new Entry[PLACES];
        private final int[] joinedTo = new int[PLACES];
        private final int[] said = new int[PLACES];
        private int used;

        LogBook() {
            Arrays.fill(joinedTo, NONE);
            Arrays.fill(said, NONE);
        }

        void takeAway() {
            for (int i = 0; i < PLACES; i++) {
                entries[i] = null;
            }
            Arrays.fill(joinedTo, NONE);
            Arrays.fill(said, NONE);
            used = 0;
        }

        int used() {
            return used;
        }

        int firstFree() {
            for (int i = 0; i < PLACES; i++) {
                if (entries[i] == null) {
                    return i;
                }
            }
            return NONE;
        }

        Entry entryAt(int i) {
            return i >= 0 && i < PLACES ? entries[i] : null;
        }

        /** A sighting's squares; null where there is no sighting. */
        SquareSet squaresOf(int i) {
            Entry e = entryAt(i);
            return e == null ? null : e.has;
        }

        void put(int i, Entry e) {
            if (i >= 0 && i < PLACES) {
                used += (e == null ? 0 : 1) - (entries[i] == null ? 0 : 1);
                entries[i] = e;
            }
        }

        int fireOf(int i) {
            return i >= 0 && i < PLACES ? joinedTo[i] : NONE;
        }

        void putFire(int i, int f) {
            if (i >= 0 && i < PLACES) {
                joinedTo[i] = f;
            }
        }

        int saidOf(int i) {
            return i >= 0 && i < PLACES ? said[i] : NONE;
        }

        void say(int i, int f) {
            if (i >= 0 && i < PLACES) {
                said[i] = f;
            }
        }
    }

    /** The fires; their patches are renewed whenever a sighting comes or goes. */
    private static final class Fires {
        private final LogBook book;
        private final boolean[] wentOut = new boolean[FIRES];
        private final int[] again = new int[FIRES];
        private final int[] members = new int[FIRES];
        private final SquareSet[] patches = new SquareSet[FIRES];
        private final SquareSet nothing = new SquareSet();
        private final int[] perRow = new int[ROWS];
        private final int[] perColumn = new int[ROWS];
        private int ever;

        Fires(LogBook book) {
            this.book = book;
            for (int f = 0; f < FIRES; f++) {
                patches[f] = new SquareSet();
            }
        }

        void takeAway() {
            ever = 0;
        }

        int ever() {
            return ever;
        }

        boolean isOne(int f) {
            return f >= 0 && f < ever && f < FIRES;
        }

        int stateOf(int f) {
            if (!isOne(f)) {
                return NONE;
            }
            if (wentOut[f]) {
                return OUT;
            }
            return members[f] > 0 ? BURNS : GONE;
        }

        int membersOf(int f) {
            return isOne(f) ? members[f] : 0;
        }

        int againOf(int f) {
            return isOne(f) ? again[f] : NONE;
        }

        SquareSet patchOf(int f) {
            return isOne(f) && patches[f] != null ? patches[f] : nothing;
        }

        int burning() {
            int n = 0;
            for (int f = 0; f < ever; f++) {
                n += stateOf(f) == BURNS ? 1 : 0;
            }
            return n;
        }

        /** A new fire, still without sightings, that will begin with these squares. */
        int kindle(SquareSet has) {
            int f = ever;
            if (f < 0 || f >= FIRES) {
                return NONE;
            }
            again[f] = latestOutMeeting(has);
            wentOut[f] = false;
            ever++;
            return f;
        }

        private int latestOutMeeting(SquareSet has) {
            for (int f = ever - 1; f >= 0; f--) {
                if (stateOf(f) == OUT && patchOf(f).meets(has)) {
                    return f;
                }
            }
            return NONE;
        }

        void forgetLast() {
            if (ever > 0) {
                ever--;
            }
        }

        void putOut(int f, boolean isOut) {
            if (isOne(f)) {
                wentOut[f] = isOut;
            }
        }

        void renew(int f) {
            if (!isOne(f)) {
                return;
            }
            SquareSet all = patchOf(f);
            all.fill();
            int n = 0;
            for (int i = 0; i < PLACES; i++) {
                if (book.fireOf(i) == f) {
                    all.keepOnly(book.squaresOf(i));
                    n++;
                }
            }
            if (n == 0) {
                all.empty();
            }
            members[f] = n;
        }

        /** The fires that the sighting at place i fits, a bit each. */
        int fitting(int i) {
            SquareSet has = book.squaresOf(i);
            if (has == null || book.fireOf(i) != NONE) {
                return 0;
            }
            int barred = clashing(i);
            int fits = 0;
            for (int f = 0; f < ever; f++) {
                if ((barred >> f & 1) == 0 && stateOf(f) == BURNS && patchOf(f).meets(has)) {
                    fits |= 1 << f;
                }
            }
            return fits;
        }

        /** The fires that have a sighting of the same tower and minute, a bit each. */
        private int clashing(int i) {
            Entry e = book.entryAt(i);
            int bits = 0;
            for (int j = 0; j < PLACES; j++) {
                Entry other = book.entryAt(j);
                int f = book.fireOf(j);
                if (f != NONE && other != null && other.clashesWith(e)) {
                    bits |= 1 << f;
                }
            }
            return bits;
        }

        /** Rows and columns add up apart from one another, so counts of them are enough. */
        int middleOf(int f) {
            SquareSet all = patchOf(f);
            Arrays.fill(perRow, 0);
            Arrays.fill(perColumn, 0);
            for (int q = 0; q < SQUARES; q++) {
                if (all.has(q)) {
                    perRow[q >> 4]++;
                    perColumn[q & 15]++;
                }
            }
            int found = NONE;
            int least = 0;
            for (int q = 0; q < SQUARES; q++) {
                if (all.has(q)) {
                    int sum = sumOfWays(perRow, q >> 4) + sumOfWays(perColumn, q & 15);
                    if (found == NONE || sum < least) {
                        least = sum;
                        found = q;
                    }
                }
            }
            return found;
        }

        private static int sumOfWays(int[] counts, int at) {
            int sum = 0;
            for (int n = 0; n < counts.length; n++) {
                sum += counts[n] * Math.abs(n - at);
            }
            return sum;
        }
    }

    /** The least minutes from every square to one goal, kept until the goal or the wood changes. */
    private static final class Ways {
        private static final int SIDES = 4;

        private final Wood wood;
        private final int[] left = new int[SQUARES];
        private final int[] queue = new int[SQUARES];
        private final boolean[] waiting = new boolean[SQUARES];
        private int queued;
        private int tail;
        private int goal = NONE;

        Ways(Wood wood) {
            this.wood = wood;
        }

        void forget() {
            goal = NONE;
        }

        /** Works backwards from the goal, so that one table serves every crew. */
        void leadTo(int q) {
            if (q == goal || q < 0 || q >= SQUARES) {
                return;
            }
            goal = q;
            Arrays.fill(left, NONE);
            left[q] = 0;
            tail = 0;
            queued = 0;
            push(q);
            int head = 0;
            // In a first-in first-out queue no square comes up more often than there are squares.
            for (int n = 0; n < SQUARES * SQUARES && queued > 0; n++) {
                int at = queue[head & 255];
                head++;
                queued--;
                waiting[at & 255] = false;
                relax(at);
            }
        }

        private void push(int q) {
            if (q >= 0 && q < SQUARES && !waiting[q]) {
                waiting[q] = true;
                queue[tail & 255] = q;
                tail++;
                queued++;
            }
        }

        private void relax(int to) {
            for (int side = 0; side < SIDES; side++) {
                int from = wood.beside(to, side);
                if (from != NONE) {
                    int sum = minutesFrom(to) + wood.stepCost(from, to);
                    int old = minutesFrom(from);
                    if (old == NONE || sum < old) {
                        improve(from, sum);
                    }
                }
            }
        }

        private void improve(int q, int sum) {
            if (q >= 0 && q < SQUARES) {
                left[q] = sum;
                push(q);
            }
        }

        int minutesFrom(int q) {
            return q >= 0 && q < SQUARES && goal != NONE ? left[q] : NONE;
        }

        /** The i-th square of the way from a square to the goal. */
        int stepFrom(int from, int i) {
            if (i < 0 || i >= SQUARES || minutesFrom(from) == NONE) {
                return NONE;
            }
            int at = from;
            for (int n = 0; n < i && at != NONE; n++) {
                at = at == goal ? NONE : stepOn(at);
            }
            return at;
        }

        private int stepOn(int at) {
            for (int side = 0; side < SIDES; side++) {
                int to = wood.beside(at, side);
                if (to != NONE && minutesFrom(to) != NONE
                        && minutesFrom(to) + wood.stepCost(at, to) == minutesFrom(at)) {
                    return to;
                }
            }
            return NONE;
        }
    }

    /** The crews, and which of them the latest sending gave to which fire. */
    private static final class Crews {
        private static final int SETS = 256;
        /** Above eight of the longest ways together, and far below where eight of it would wrap. */
        private static final int TOO_FAR = 10000000;

        private final int[] at = new int[CREWS];
        private final int[] given = new int[FIRES];
        private final int[] asking = new int[CREWS];
        private final int[] costs = new int[CREWS * CREWS];
        private final int[] least = new int[SETS];
        private int asked;
        private int number;

        Crews() {
            Arrays.fill(given, NONE);
        }

        void takeAway() {
            number = 0;
            Arrays.fill(given, NONE);
        }

        int number() {
            return number;
        }

        boolean isOne(int k) {
            return k >= 0 && k < number && k < CREWS;
        }

        int come(int q) {
            if (number < 0 || number >= CREWS) {
                return NONE;
            }
            at[number] = q;
            number++;
            return number - 1;
        }

        void forgetLast() {
            if (number > 0) {
                number--;
            }
        }

        int standsAt(int k) {
            return isOne(k) ? at[k] : NONE;
        }

        void stand(int k, int q) {
            if (isOne(k)) {
                at[k] = q;
            }
        }

        int givenTo(int f) {
            return f >= 0 && f < FIRES ? given[f] : NONE;
        }

        void startSending() {
            asked = 0;
        }

        /** Fire f asks for a crew; the ways lead to its middle. */
        void ask(int f, Ways ways) {
            if (asked < 0 || asked >= CREWS) {
                return;
            }
            asking[asked] = f;
            for (int k = 0; k < number && k < CREWS; k++) {
                int minutes = ways.minutesFrom(at[k]);
                costs[CREWS * asked + k] = minutes == NONE ? TOO_FAR : minutes;
            }
            asked++;
        }

        int assign() {
            for (int taken = SETS - 1; taken >= 0; taken--) {
                least[taken] = leastBehind(taken);
            }
            if (least[0] >= TOO_FAR) {
                return NONE;
            }
            Arrays.fill(given, NONE);
            int taken = 0;
            for (int n = 0; n < asked && n < CREWS; n++) {
                int k = firstLeast(taken);
                give(asking[n], k);
                taken |= 1 << k;
            }
            return least[0];
        }

        /** The least sum for the fires still without a crew when these crews are taken. */
        private int leastBehind(int taken) {
            int n = Integer.bitCount(taken);
            if (n >= asked) {
                return 0;
            }
            int sum = TOO_FAR;
            for (int k = 0; k < number && k < CREWS; k++) {
                if ((taken >> k & 1) == 0) {
                    sum = Math.min(sum, sumWith(taken, n, k));
                }
            }
            return sum;
        }

        private int sumWith(int taken, int n, int k) {
            int then = (taken | 1 << k) & (SETS - 1);
            int cell = CREWS * n + k;
            return cell >= 0 && cell < costs.length ? costs[cell] + least[then] : TOO_FAR;
        }

        private int firstLeast(int taken) {
            int n = Integer.bitCount(taken);
            for (int k = 0; k < number && k < CREWS; k++) {
                if ((taken >> k & 1) == 0 && sumWith(taken, n, k) == least[taken & (SETS - 1)]) {
                    return k;
                }
            }
            return 0;
        }

        private void give(int f, int k) {
            if (f >= 0 && f < FIRES) {
                given[f] = k;
            }
        }
    }

    /** The latest acts, in a ring: the oldest one gives way to a new one. */
    private static final class History {
        private final int[] acts = new int[ACTS];
        private final int[] whiches = new int[ACTS];
        private final int[] olds = new int[ACTS];
        private final Entry[] entries = new Entry[ACTS];
        private int top;
        private int size;

        void takeAway() {
            size = 0;
        }

        int size() {
            return size;
        }

        void keep(int act, int which, int old, Entry entry) {
            if (top < 0 || top >= ACTS) {
                return;
            }
            acts[top] = act;
            whiches[top] = which;
            olds[top] = old;
            entries[top] = entry;
            top = top == ACTS - 1 ? 0 : top + 1;
            size = Math.min(size + 1, ACTS);
        }

        /** Takes the latest act off; what it was is told until another one is kept. */
        boolean takeLast() {
            if (size <= 0) {
                return false;
            }
            size--;
            top = top == 0 ? ACTS - 1 : top - 1;
            return true;
        }

        int act() {
            return top >= 0 && top < ACTS ? acts[top] : NONE;
        }

        int which() {
            return top >= 0 && top < ACTS ? whiches[top] : NONE;
        }

        int old() {
            return top >= 0 && top < ACTS ? olds[top] : NONE;
        }

        Entry entry() {
            return top >= 0 && top < ACTS ? entries[top] : null;
        }
    }

    /** Into how few fires a handful of sightings can be joined. */
    private static final class Groups {
        private static final int SETS = 1024;

        private final Entry[] taken = new Entry[GROUPED];
        private final int[] few = new int[SETS];
        private final SquareSet all = new SquareSet();
        private int number;

        void start() {
            number = 0;
        }

        /** False if it is one too many, or has no squares. */
        boolean take(Entry e) {
            if (number < 0 || number >= GROUPED || e.has == null || e.has.isEmpty()) {
                return false;
            }
            taken[number] = e;
            number++;
            return true;
        }

        int least() {
            int sets = Math.min(1 << number, SETS);
            few[0] = 0;
            for (int set = 1; set < sets; set++) {
                few[set] = canBeOne(set) ? 1 : fewParts(set);
            }
            return few[(sets - 1) & (SETS - 1)];
        }

        /** The lowest sighting of the set has its group; what that leaves has been counted before. */
        private int fewParts(int set) {
            int rest = set & (set - 1);
            int found = GROUPED;
            for (int part = rest; part > 0; part = part - 1 & rest) {
                int group = set ^ part;
                if (group < SETS && part < SETS && few[group] == 1) {
                    found = Math.min(found, few[part] + 1);
                }
            }
            return found;
        }

        private boolean canBeOne(int set) {
            all.fill();
            for (int n = 0; n < number && n < GROUPED; n++) {
                Entry e = taken[n];
                if ((set >> n & 1) != 0 && e != null) {
                    if (clashesAhead(set, n)) {
                        return false;
                    }
                    all.keepOnly(e.has);
                }
            }
            return !all.isEmpty();
        }

        private boolean clashesAhead(int set, int n) {
            for (int m = 0; m < n && m < GROUPED; m++) {
                Entry ahead = taken[m];
                if ((set >> m & 1) != 0 && ahead != null && ahead.clashesWith(taken[n])) {
                    return true;
                }
            }
            return false;
        }
    }
}
