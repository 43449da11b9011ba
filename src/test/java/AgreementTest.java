import java.util.Random;

/** Runs of calls by a fixed seed: SmokeWatch must answer every one as PlainWatch does. */
public final class AgreementTest {
    /** The most calls that one step of a run makes: undoing all that can be undone and more. */
    private static final int STEP = 60;
    private static final int ALL_HEIGHTS = 4001;

    /** Numbers that are no place, tower, fire, crew, rank or kind, but whose lowest bits are those of one. */
    private static final int[] WILD = {Integer.MIN_VALUE, Integer.MIN_VALUE + 1, -65536, -256, -60, -32, -16, 16,
        31, 32, 33, 64, 255, 256, 65536, Integer.MAX_VALUE - 1, Integer.MAX_VALUE};

    private static int wrong;

    private final Random random;
    private final Watch watch = new Watch();
    private final PlainWatch plain = new PlainWatch();
    private final int run;
    private final int size;
    private final int rough;
    private final int lately;
    private final boolean crowded;
    private final StringBuilder told = new StringBuilder();

    private AgreementTest(int run) {
        this.run = run;
        random = new Random(977L * run + 5);
        size = new int[] {3, 5, 7, 10, 16}[run % 5];
        rough = new int[] {0, 6, 20, 60, 400, ALL_HEIGHTS}[random.nextInt(6)];
        lately = random.nextInt(3) == 0 ? 3 : 60;
        crowded = random.nextInt(4) == 0;
    }

    public static void main(String[] args) {
        int runs = args.length > 0 ? Integer.parseInt(args[0]) : 150;
        for (int run = 0; run < runs && wrong == 0; run++) {
            new AgreementTest(run).go();
        }
        System.out.println(wrong == 0 ? runs + " runs agree" : "a run does not agree");
        System.exit(wrong == 0 ? 0 : 1);
    }

    private void go() {
        layWood();
        boolean fiery = random.nextBoolean();
        while (watch.calls() <= Watch.CALLS - STEP && wrong == 0) {
            if (random.nextInt(fiery ? 3 : 2) == 0) {
                ask();
            } else {
                act();
            }
        }
    }

    private void layWood() {
        for (int r = 0; r < size; r++) {
            int n = random.nextInt(5) == 0 ? random.nextInt(size + 1) : size;
            row(r, n, height(), 1 + random.nextInt(6));
        }
        for (int n = 0; n < size; n++) {
            square(random.nextInt(size), random.nextInt(size), height(), 1 + random.nextInt(9));
        }
        for (int n = 1 + random.nextInt(size); n > 0; n--) {
            tower(random.nextInt(size), random.nextInt(size), random.nextInt(40));
        }
    }

    private int height() {
        if (rough == ALL_HEIGHTS) {
            return random.nextInt(20) == 0 ? new int[] {-1001, -1000, 3000, 3001}[random.nextInt(4)]
                : random.nextInt(ALL_HEIGHTS) - 1000;
        }
        return rough == 0 ? 0 : random.nextInt(rough);
    }

    /** Mostly within, at times just outside. */
    private int near(int from, int to) {
        return from - 1 + random.nextInt(to - from + 3);
    }

    /** Just outside, or far from it. */
    private int odd(int from, int to) {
        return random.nextInt(3) == 0 ? WILD[random.nextInt(WILD.length)] : near(from, to);
    }

    private int coordinate() {
        return random.nextInt(12) == 0 ? odd(0, size) : random.nextInt(size);
    }

    private int placeOfLog() {
        int used = Math.max(1, plain.count(1));
        return random.nextInt(20) == 0 ? odd(0, 60) : random.nextInt(used);
    }

    private int fireNumber() {
        int ever = Math.max(1, plain.count(2));
        return random.nextInt(12) == 0 ? odd(0, 20) : random.nextInt(ever);
    }

    private int crewNumber() {
        int crews = Math.max(1, plain.count(3));
        return random.nextInt(12) == 0 ? odd(0, 8) : random.nextInt(crews);
    }

    private int towerNumber() {
        int towers = Math.max(1, plain.count(0));
        return random.nextInt(12) == 0 ? odd(0, 8) : random.nextInt(towers);
    }

    private int minute() {
        return random.nextInt(30) == 0 ? new int[] {-1, 0, 9999, 10000}[random.nextInt(4)] : random.nextInt(lately);
    }

    private int aim() {
        return random.nextInt(30) == 0 ? new int[] {-51, -50, 50, 51}[random.nextInt(4)] : random.nextInt(9) - 4;
    }

    private int side() {
        return random.nextInt(20) == 0 ? new int[] {-1, 0, 400, 401}[random.nextInt(4)] : random.nextInt(300);
    }

    private int haze() {
        int[] edges = {0, 1, Integer.MIN_VALUE, 0x3F800000, 0x3F800001, 0x7FC00000, 0xBF800000, 0x80000001,
            0x7F800000, 0x00800000, 0x007FFFFF, Integer.MAX_VALUE, -1};
        if (random.nextInt(5) == 0) {
            return edges[random.nextInt(edges.length)];
        }
        return Float.floatToIntBits(random.nextInt(101) / 100f) + random.nextInt(3) - 1;
    }

    /** Where it is crowded nothing is cleared, taken apart or undone, so that the log, the fires and the crews fill up. */
    private int kindOfAct() {
        int n = random.nextInt(100);
        if (!crowded || random.nextInt(20) == 0) {
            return n;
        }
        boolean lessens = n >= 38 && n < 44 || n >= 64 && n < 71 || n >= 93;
        return lessens ? random.nextInt(38) : n >= 44 && n < 52 ? 60 : n;
    }

    private void act() {
        int n = kindOfAct();
        if (n < 30) {
            sight(random.nextInt(25) == 0 ? odd(0, 3) : random.nextInt(4), towerNumber());
        } else if (n < 36) {
            int r = coordinate();
            int c = coordinate();
            int minute = minute();
            int down = aim();
            int right = aim();
            int side = side();
            same("report " + r + " " + c + " " + minute + " " + down + " " + right + " " + side,
                watch.report(r, c, minute, down, right, side), plain.report(r, c, minute, down, right, side));
        } else if (n < 38) {
            int v = random.nextInt();
            same("remark " + v, watch.remark(v), plain.remark(v));
        } else if (n < 44) {
            int i = placeOfLog();
            same("clear " + i, bit(watch.clear(i)), bit(plain.clear(i)));
        } else if (n < 56) {
            int i = placeOfLog();
            int f = fireNumber();
            same("join " + i + " " + f, bit(watch.join(i, f)), bit(plain.join(i, f)));
        } else if (n < 64) {
            int i = placeOfLog();
            same("begin " + i, watch.begin(i), plain.begin(i));
        } else if (n < 69) {
            int i = placeOfLog();
            same("apart " + i, bit(watch.apart(i)), bit(plain.apart(i)));
        } else if (n < 71) {
            same("office", watch.office(), plain.office());
        } else if (n < 74) {
            int f = fireNumber();
            same("out " + f, bit(watch.out(f)), bit(plain.out(f)));
        } else {
            actBeside(n);
        }
    }

    private void actBeside(int n) {
        if (n < 78) {
            int r = coordinate();
            int c = coordinate();
            same("crew " + r + " " + c, watch.crew(r, c), plain.crew(r, c));
        } else if (n < 82) {
            int k = crewNumber();
            int r = coordinate();
            int c = coordinate();
            same("move " + k + " " + r + " " + c, bit(watch.move(k, r, c)), bit(plain.move(k, r, c)));
        } else if (n < 85) {
            same("send", watch.send(), plain.send());
        } else if (n < 90) {
            int i = placeOfLog();
            int f = random.nextInt(5) == 0 ? odd(-1, 60) : random.nextInt(3);
            same("claim " + i + " " + f, bit(watch.claim(i, f)), bit(plain.claim(i, f)));
        } else if (n < 92) {
            square(coordinate(), coordinate(), height(), near(1, 60));
        } else if (n < 93) {
            tower(coordinate(), coordinate(), near(0, 100));
        } else if (random.nextInt(150) == 0) {
            row(near(0, 15), near(0, 16), height(), near(1, 60));
        } else {
            for (int times = random.nextInt(30) == 0 ? STEP : 1 + random.nextInt(3); times > 0; times--) {
                same("undo", bit(watch.undo()), bit(plain.undo()));
            }
        }
    }

    private void ask() {
        int i = placeOfLog();
        int f = fireNumber();
        int k = crewNumber();
        int t = towerNumber();
        int r = coordinate();
        int c = coordinate();
        int what = random.nextInt(10) == 0 ? odd(0, 7) : random.nextInt(7);
        int rank = random.nextInt(10) == 0 ? odd(0, 256) : random.nextInt(size);
        switch (random.nextInt(17)) {
            case 0 -> same("see " + t + " " + r + " " + c, watch.see(t, r, c), plain.see(t, r, c));
            case 1 -> same("hidden " + t + " " + r + " " + c, watch.hidden(t, r, c), plain.hidden(t, r, c));
            case 2, 3 -> same("log " + i + " " + what, watch.log(i, what), plain.log(i, what));
            case 4 -> same("squares " + i + " " + rank, watch.squares(i, rank), plain.squares(i, rank));
            case 5, 6 -> same("fire " + f + " " + what, watch.fire(f, what), plain.fire(f, what));
            case 7 -> same("patch " + f + " " + rank, watch.patch(f, rank), plain.patch(f, rank));
            case 8 -> fewest();
            case 9 -> same("next " + f, watch.next(f), plain.next(f));
            case 10 -> same("place " + k, watch.place(k), plain.place(k));
            case 11 -> same("minutes " + k + " " + r + " " + c, watch.minutes(k, r, c), plain.minutes(k, r, c));
            case 12 -> same("way " + k + " " + r + " " + c + " " + rank, watch.way(k, r, c, rank), plain.way(k, r, c, rank));
            case 13 -> same("sent " + f, watch.sent(f), plain.sent(f));
            case 14 -> askOfBlind(rank);
            case 15 -> same("check", watch.check(), plain.check());
            default -> same("count " + what, watch.count(what), plain.count(what));
        }
    }

    private void askOfBlind(int rank) {
        same("blinds", watch.blinds(), plain.blinds());
        same("blind " + rank, watch.blind(rank), plain.blind(rank));
        if (size < 16 || random.nextInt(8) == 0) {
            same("best", watch.best(), plain.best());
        }
    }

    private void fewest() {
        int from = random.nextInt(lately);
        int to = from + random.nextInt(lately < 10 ? 2 : 12) - 1;
        same("fewest " + from + " " + to, watch.fewest(from, to), plain.fewest(from, to));
    }

    private void row(int r, int n, int height, int minutes) {
        same("row " + r + " " + n + " " + height + " " + minutes,
            bit(watch.row(r, n, height, minutes)), bit(plain.row(r, n, height, minutes)));
    }

    private void square(int r, int c, int height, int minutes) {
        same("square " + r + " " + c + " " + height + " " + minutes,
            bit(watch.square(r, c, height, minutes)), bit(plain.square(r, c, height, minutes)));
    }

    private void tower(int r, int c, int height) {
        same("tower " + r + " " + c + " " + height, watch.tower(r, c, height), plain.tower(r, c, height));
    }

    private void sight(int kind, int t) {
        int minute = minute();
        int down = aim();
        int right = aim();
        int side = side();
        int reach = random.nextInt(20) == 0 ? new int[] {0, 1, 40, 41}[random.nextInt(4)] : 1 + random.nextInt(2 * size);
        int haze = haze();
        same("sight " + kind + " " + t + " " + minute + " " + down + " " + right + " " + side + " " + reach + " " + haze,
            watch.sight(kind, t, minute, down, right, side, reach, haze),
            plain.sight(kind, t, minute, down, right, side, reach, haze));
    }

    private static int bit(boolean b) {
        return b ? 1 : 0;
    }

    private void same(String call, int got, int due) {
        told.append(call).append(" = ").append(due).append('\n');
        if (got != due && wrong++ == 0) {
            System.out.println("run " + run + ":\n" + told + "but answered " + got);
        }
    }
}
