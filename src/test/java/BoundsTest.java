import java.util.stream.IntStream;

/**
 * Every number that a call takes, from the least to the greatest int: the first and the last one that
 * is taken, those that are refused on both sides, and that a refused call does nothing.
 */
public final class BoundsTest extends Bounds {
    private static final int ONE = 0x3F800000;
    private static final int NO_NUMBER = 0x7FC00000;

    private static final Start BUSY = BoundsTest::busy;
    private static final Start CALM = BoundsTest::calm;
    private static final Start RAGGED = BoundsTest::ragged;
    private static final Start RAGGED_AND_BUSY = BoundsTest::raggedAndBusy;
    private static final Start FULL_LOG = BoundsTest::fullLog;
    private static final Start ALL_JOINED = BoundsTest::allJoined;
    private static final Start TWENTY_FIRES = BoundsTest::twentyFires;
    private static final Start TWO_SENT = BoundsTest::twoSent;
    private static final Start EIGHT_CREWS = BoundsTest::eightCrews;
    private static final Start EIGHT_TOWERS = BoundsTest::eightTowers;

    public static void main(String[] args) {
        starts();
        rows();
        squaresOfTheWood();
        towers();
        seeing();
        sights();
        reaches();
        hazes();
        reports();
        placesOfTheLog();
        kindsOfTelling();
        ranks();
        fires();
        crews();
        waysOfCrews();
        claims();
        missingSquares();
        squaresThatAreThere();
        noWays();
        sending();
        finish("all bounds hold");
    }

    /** The whole wood, two towers, sightings of every kind, fires that BURN, are OUT and GONE, crews, claims. */
    private static Watch busy() {
        Watch w = new Watch();
        for (int r = 0; r < 16; r++) {
            w.row(r, 16, 7 * r % 5, 1 + r % 3);
        }
        w.square(4, 4, 60, 5);
        w.tower(8, 8, 30);
        w.tower(0, 0, 5);
        w.sight(0, 0, 100, 0, 1, 50, 0, 0);
        w.sight(1, 1, 101, 1, 1, 50, 20, 0);
        w.sight(2, 0, 102, -1, 1, 80, 12, 0x3E800000);
        w.sight(3, 1, 103, 1, 0, 100, 0, 0);
        w.report(15, 0, 104, -1, 1, 40);
        w.remark(-7);
        w.remark(8);
        w.clear(6);
        w.sight(0, 0, 100, 0, 1, 60, 0, 0);
        w.report(15, 15, 5, 1, 0, 0);
        w.begin(0);
        w.begin(1);
        w.out(1);
        w.begin(4);
        w.begin(3);
        w.apart(3);
        w.crew(15, 15);
        w.crew(3, 2);
        w.move(0, 10, 10);
        w.send();
        w.claim(0, 5);
        w.claim(6, 5);
        return w;
    }

    /** The whole wood, a tower, acts that can be undone, but nothing in the log, no fire, no crew. */
    private static Watch calm() {
        Watch w = new Watch();
        for (int r = 0; r < 16; r++) {
            w.row(r, 16, 3 * r % 7, 1 + r % 4);
        }
        w.square(7, 9, 40, 9);
        w.tower(8, 8, 20);
        w.remark(12);
        w.clear(0);
        return w;
    }

    /** Rows of many lengths, some are missing; a tower, and nothing that keeps square() from its work. */
    private static Watch ragged() {
        Watch w = new Watch();
        for (int r = 0; r < 16; r++) {
            w.row(r, LENGTHS[r], r, 2);
        }
        w.tower(7, 2, 50);
        return w;
    }

    private static Watch raggedAndBusy() {
        Watch w = ragged();
        w.sight(0, 0, 100, -1, 1, 90, 0, 0);
        w.begin(0);
        w.crew(7, 7);
        w.send();
        return w;
    }

    /** Sixty sightings that fit the fire of place 30, which alone is joined. */
    private static Watch fullLog() {
        Watch w = flat(4);
        w.tower(0, 0, 9);
        for (int i = 0; i < 60; i++) {
            w.report(0, 0, 100 + i, 1, 1, 0);
        }
        w.begin(30);
        return w;
    }

    private static Watch allJoined() {
        Watch w = fullLog();
        w.office();
        return w;
    }

    /** Twenty fires that BURN, and a sighting at place 20 that fits them all. */
    private static Watch twentyFires() {
        Watch w = flat(4);
        w.tower(0, 0, 9);
        for (int i = 0; i < 21; i++) {
            w.report(0, 0, 100 + i, 1, 1, 0);
        }
        for (int i = 0; i < 20; i++) {
            w.begin(i);
        }
        return w;
    }

    private static Watch twoSent() {
        Watch w = twentyFires();
        for (int f = 1; f < 19; f++) {
            w.out(f);
        }
        w.crew(0, 0);
        w.crew(3, 3);
        w.send();
        return w;
    }

    private static Watch eightCrews() {
        Watch w = flat(16);
        for (int k = 0; k < 8; k++) {
            w.crew(k, 2 * k);
        }
        return w;
    }

    /** On the ground, so that they see the squares beside alone. */
    private static Watch eightTowers() {
        Watch w = flat(16);
        for (int t = 0; t < 8; t++) {
            w.tower(8, 8, 0);
        }
        return w;
    }

    /** What the tests below rest on. */
    private static void starts() {
        promise = "the starts";
        Watch w = busy();
        int[] states = {0, 1, 0, 2};
        for (int f = 0; f < states.length; f++) {
            is("fire(" + f + ", 0)", w.fire(f, 0), states[f]);
        }
        for (int i = 0; i < 10; i++) {
            is("log(" + i + ", 0)", w.log(i, 0), new int[] {0, 1, 2, 3, 4, 5, 0, 4, 6, 6}[i]);
            is("in a fire: " + i, w.log(i, 4), new int[] {0, 1, NONE, NONE, 2, NONE, NONE, NONE, NONE, NONE}[i]);
        }
        is("no SQUARES", w.log(7, 3), 0);
        yes("crews are sent", w.sent(0) != NONE && w.sent(2) != NONE);
        is("a wrong claim", w.check(), 6);
        is("acts", w.count(4), 10 + 6 + 3);
        is("acts of calm", calm().count(4), 2);
        is("a full log", fullLog().count(1), 60);
        is("it fits", fullLog().log(59, 6), 1);
        is("all are joined", allJoined().fire(0, 1), 60);
        is("twenty fires", twentyFires().count(2), 20);
        is("it fits them all", twentyFires().log(20, 6), 20);
        is("eight crews", eightCrews().count(3), 8);
        is("eight towers", eightTowers().count(0), 8);
        is("the last fire has a crew", twoSent().sent(19), 1);
    }

    private static void rows() {
        promise = "2 row, refused: r is none of 0 to 15";
        bounds("r", BUSY, 0, 15, (w, v) -> told(w.row(v, 3, 0, 1)));
        bounds("r of a missing one", BUSY, 0, 15, (w, v) -> told(w.row(v, 0, 0, 0)));
        promise = "2 row, refused: n is none of 0 to 16";
        bounds("n", BUSY, 0, 16, (w, v) -> told(w.row(3, v, 0, 1)));
        promise = "2 row, refused: a height is none of -1,000 to 3,000";
        bounds("height", BUSY, -1000, 3000, (w, v) -> told(w.row(3, 4, v, 1)));
        bounds("height of one square", BUSY, -1000, 3000, (w, v) -> told(w.row(3, 1, v, 1)));
        promise = "2 row, refused: minutes are none of 1 to 60";
        bounds("minutes", BUSY, 1, 60, (w, v) -> told(w.row(3, 4, 0, v)));
        promise = "2 row: of n 0 height and minutes count for nothing";
        taken("height", BUSY, (w, v) -> told(w.row(3, 0, v, 1)), outside(-1000, 3000));
        taken("minutes", BUSY, (w, v) -> told(w.row(3, 0, 0, v)), outside(1, 60));
    }

    private static void squaresOfTheWood() {
        promise = "3 square, refused: there is no such ROW or column";
        bounds("r", CALM, 0, 15, (w, v) -> told(w.square(v, 3, 77, 9)));
        bounds("c", CALM, 0, 15, (w, v) -> told(w.square(3, v, 77, 9)));
        promise = "3 square, refused: a height is none of -1,000 to 3,000";
        bounds("height", CALM, -1000, 3000, (w, v) -> told(w.square(3, 3, v, 9)));
        promise = "3 square, refused: minutes are none of 1 to 60";
        bounds("minutes", CALM, 1, 60, (w, v) -> told(w.square(3, 3, 77, v)));
        promise = "3 square, refused: a place of the log, a fire or a crew is there";
        refused("busy", BUSY, w -> told(w.square(3, 3, 77, 9)));
        refused("crews", EIGHT_CREWS, w -> told(w.square(15, 15, 77, 9)));
    }

    private static void towers() {
        promise = "4 tower, refused: there is no such ROW or column";
        bounds("r", CALM, 0, 15, (w, v) -> w.tower(v, 3, 5));
        bounds("c", CALM, 0, 15, (w, v) -> w.tower(3, v, 5));
        promise = "4 tower, refused: height is none of 0 to 100";
        bounds("height", CALM, 0, 100, (w, v) -> w.tower(3, 3, v));
        promise = "4 tower, refused: there are 8";
        refused("a ninth", EIGHT_TOWERS, w -> w.tower(3, 3, 50));
        promise = "4 tower, refused: the log has a place that isn't nothing";
        refused("busy", BUSY, w -> w.tower(3, 3, 5));
    }

    private static void seeing() {
        promise = "5 see, NONE: no such tower";
        bounds("t", BUSY, 0, 1, (w, v) -> w.see(v, 3, 3));
        bounds("t of 8", EIGHT_TOWERS, 0, 7, (w, v) -> w.see(v, 3, 3));
        promise = "5 see, NONE: it's missing";
        bounds("r", BUSY, 0, 15, (w, v) -> w.see(0, v, 3));
        bounds("c", BUSY, 0, 15, (w, v) -> w.see(0, 3, v));
        promise = "6 hidden, NONE: no such tower";
        bounds("t of 8", EIGHT_TOWERS, 0, 7, (w, v) -> w.hidden(v, 3, 3));
        promise = "6 hidden, NONE: it's missing";
        bounds("r", EIGHT_TOWERS, 0, 15, (w, v) -> w.hidden(0, v, 3));
        bounds("c", EIGHT_TOWERS, 0, 15, (w, v) -> w.hidden(0, 3, v));
    }

    private static void sights() {
        promise = "7 sight, refused: it is no kind of 0 to 3";
        bounds("kind", BUSY, 0, 3, (w, v) -> w.sight(v, 0, 9, 1, 0, 9, 9, 0));
        promise = "7 sight, refused: no such tower";
        bounds("t", BUSY, 0, 1, (w, v) -> w.sight(0, v, 9, 1, 0, 9, 9, 0));
        bounds("t of 8", EIGHT_TOWERS, 0, 7, (w, v) -> w.sight(3, v, 9, 1, 0, 9, 9, 0));
        for (int kind = 0; kind < 4; kind++) {
            sightsOfKind(kind);
        }
        promise = "7 sight, refused: there are 60";
        refused("a 61st", FULL_LOG, w -> w.sight(0, 0, 9, 1, 0, 9, 9, 0));
    }

    private static void sightsOfKind(int kind) {
        promise = "7 sight " + kind + ", refused: a MINUTE is none of 0 to 9,999";
        bounds("minute", BUSY, 0, 9999, (w, v) -> w.sight(kind, 0, v, 1, 0, 9, 9, 0));
        promise = "7 sight " + kind + ", refused: a DIRECTION is none of -50 to 50";
        bounds("down", BUSY, -50, 50, (w, v) -> w.sight(kind, 0, 9, v, 1, 9, 9, 0));
        bounds("right", BUSY, -50, 50, (w, v) -> w.sight(kind, 0, 9, 1, v, 9, 9, 0));
        promise = "7 sight " + kind + ", refused: a DIRECTION is both 0";
        refused("(0, 0)", BUSY, w -> w.sight(kind, 0, 9, 0, 0, 9, 9, 0));
        taken("down alone", BUSY, (w, v) -> w.sight(kind, 0, 9, v, 0, 9, 9, 0), -50, -1, 1, 50);
        taken("right alone", BUSY, (w, v) -> w.sight(kind, 0, 9, 0, v, 9, 9, 0), -50, -1, 1, 50);
        promise = "7 sight " + kind + ", refused: a SIDE is none of 0 to 400";
        bounds("side", BUSY, 0, 400, (w, v) -> w.sight(kind, 0, 9, 1, 0, v, 9, 0));
    }

    private static void reaches() {
        promise = "7 sight, refused: the REACH of SHORT is none of 1 to 40";
        bounds("reach", BUSY, 1, 40, (w, v) -> w.sight(1, 0, 9, 1, 0, 9, v, 0));
        promise = "7 sight, refused: the REACH of FAINT is none of 1 to 40";
        bounds("reach", BUSY, 1, 40, (w, v) -> w.sight(2, 0, 9, 1, 0, 9, v, 0));
        promise = "7 sight: the REACH of BEARING and GLOW counts for nothing";
        taken("BEARING", BUSY, (w, v) -> w.sight(0, 0, 9, 1, 0, 9, v, 0), outside(1, 40));
        taken("GLOW", BUSY, (w, v) -> w.sight(3, 0, 9, 1, 0, 9, v, 0), outside(1, 40));
    }

    private static void hazes() {
        promise = "7 sight: the HAZE of FAINT is a float of 0 to 1";
        AskWith faint = (w, v) -> w.sight(2, 0, 9, 1, 0, 9, 9, v);
        taken("bits", BUSY, faint, 0, 1, 0x007FFFFF, 0x00800000, ONE - 1, ONE, MIN);
        promise = "7 sight, refused: HAZE is above 1";
        refused("bits", BUSY, faint, ONE + 1, 0x40000000, 0x42C80000, 0x7F7FFFFF, 0x7F800000);
        promise = "7 sight, refused: HAZE is below 0";
        refused("bits", BUSY, faint, MIN + 1, 0x80800000, 0xBF800000, 0xBF7FFFFF, 0xFF7FFFFF, 0xFF800000);
        promise = "7 sight, refused: HAZE that is no number";
        refused("bits", BUSY, faint, 0x7F800001, NO_NUMBER, 0x7FC00001, MAX, 0xFF800001, 0xFFC00000, NONE);
        promise = "7 sight: the HAZE of the others counts for nothing";
        for (int kind : new int[] {0, 1, 3}) {
            taken("kind " + kind, BUSY, (w, v) -> w.sight(kind, 0, 9, 1, 0, 9, 9, v),
                MIN, MIN + 1, NONE, ONE + 1, NO_NUMBER, 0x7F800000, 0xBF800000, MAX);
        }
    }

    private static void reports() {
        promise = "8 report, refused: there is no such ROW or column";
        bounds("r", BUSY, 0, 15, (w, v) -> w.report(v, 3, 9, 1, 0, 9));
        bounds("c", BUSY, 0, 15, (w, v) -> w.report(3, v, 9, 1, 0, 9));
        promise = "8 report, refused: a MINUTE is none of 0 to 9,999";
        bounds("minute", BUSY, 0, 9999, (w, v) -> w.report(3, 3, v, 1, 0, 9));
        promise = "8 report, refused: a DIRECTION is none of -50 to 50, or both 0";
        bounds("down", BUSY, -50, 50, (w, v) -> w.report(3, 3, 9, v, 1, 9));
        bounds("right", BUSY, -50, 50, (w, v) -> w.report(3, 3, 9, 1, v, 9));
        refused("(0, 0)", BUSY, w -> w.report(3, 3, 9, 0, 0, 9));
        taken("down alone", BUSY, (w, v) -> w.report(3, 3, 9, v, 0, 9), -50, -1, 1, 50);
        taken("right alone", BUSY, (w, v) -> w.report(3, 3, 9, 0, v, 9), -50, -1, 1, 50);
        promise = "8 report, refused: a SIDE is none of 0 to 400";
        bounds("side", BUSY, 0, 400, (w, v) -> w.report(3, 3, 9, 1, 0, v));
        promise = "8 report, refused: there are 60";
        refused("a 61st", FULL_LOG, w -> w.report(3, 3, 9, 1, 0, 9));
        promise = "9 remark: a number may be any";
        taken("number", BUSY, (w, v) -> w.remark(v), outside(1, 0));
        promise = "9 remark, NONE: there are 60";
        refused("a 61st", FULL_LOG, (w, v) -> w.remark(v), 0, NONE, MIN, MAX);
    }

    private static void placesOfTheLog() {
        promise = "10 clear, refused: there is none such";
        bounds("i", FULL_LOG, 0, 59, (w, v) -> told(w.clear(v)));
        promise = "10 clear, refused: it has nothing";
        refused("i", BUSY, (w, v) -> told(w.clear(v)), 8, 9, 58, 59);
        promise = "10 clear, refused: a SIGHTING that is JOINED to a fire";
        refused("BURNS", BUSY, (w, v) -> told(w.clear(v)), 0, 4);
        refused("OUT", BUSY, w -> told(w.clear(1)));
        refused("all", ALL_JOINED, (w, v) -> told(w.clear(v)), 0, 29, 30, 31, 59);
        promise = "11 log, NONE: no such place";
        bounds("i", FULL_LOG, 0, 59, (w, v) -> w.log(v, 0));
        bounds("i", FULL_LOG, 0, 59, (w, v) -> w.log(v, 3));
        promise = "12 squares, NONE: no such place";
        bounds("i", FULL_LOG, 0, 59, (w, v) -> w.squares(v, 0));
        promise = "13 join, refused: no such SIGHTING";
        bounds("i", FULL_LOG, 0, 59, (w, v) -> told(w.join(v, 0)));
        refused("REMARK, nothing, no SQUARES", BUSY, (w, v) -> told(w.join(v, 0)), 5, 7, 8, 59);
        refused("in one", BUSY, (w, v) -> told(w.join(v, 0)), 0, 1, 4);
        refused("the same tower and MINUTE", BUSY, w -> told(w.join(6, 0)));
        promise = "14 begin, refused: no such SIGHTING";
        bounds("i", FULL_LOG, 0, 59, (w, v) -> w.begin(v));
        refused("REMARK, nothing, no SQUARES", BUSY, (w, v) -> w.begin(v), 5, 7, 8, 59);
        refused("in one", BUSY, (w, v) -> w.begin(v), 0, 1, 4);
        promise = "15 apart, refused: no such SIGHTING";
        bounds("i", ALL_JOINED, 0, 59, (w, v) -> told(w.apart(v)));
        refused("in none", BUSY, (w, v) -> told(w.apart(v)), 2, 3, 5, 6, 7, 8, 59);
        refused("in one that is OUT", BUSY, w -> told(w.apart(1)));
    }

    private static void kindsOfTelling() {
        promise = "11 log, NONE: no such what";
        bounds("of SHORT", BUSY, 0, 6, (w, v) -> w.log(1, v));
        promise = "11 log: of a REMARK 0 and 1";
        bounds("of a REMARK", BUSY, 0, 1, (w, v) -> w.log(5, v));
        promise = "11 log: of nothing 0 alone";
        bounds("of nothing", BUSY, 0, 0, (w, v) -> w.log(8, v));
        promise = "18 fire, NONE: no such what";
        bounds("of one that is AGAIN", () -> again(), 0, 4, (w, v) -> w.fire(1, v));
        promise = "35 count, NONE: for others";
        bounds("what", BUSY, 0, 5, (w, v) -> w.count(v));
        bounds("what of a new one", Watch::new, 0, 5, (w, v) -> w.count(v));
    }

    private static Watch again() {
        Watch w = flat(4);
        w.report(0, 0, 1, 1, 1, 0);
        w.report(0, 0, 1, 1, 1, 0);
        w.begin(0);
        w.out(0);
        w.begin(1);
        return w;
    }

    private static void ranks() {
        Watch w = busy();
        promise = "12 squares, NONE: there is no k-th";
        bounds("k", BUSY, 0, w.log(0, 3) - 1, (x, v) -> x.squares(0, v));
        bounds("k of three", FULL_LOG, 0, 2, (x, v) -> x.squares(59, v));
        refused("of no SQUARES", BUSY, (x, v) -> x.squares(7, v), outside(1, 0));
        refused("of a REMARK", BUSY, (x, v) -> x.squares(5, v), outside(1, 0));
        refused("of nothing", BUSY, (x, v) -> x.squares(59, v), outside(1, 0));
        promise = "19 patch, NONE: there is no k-th";
        bounds("k", BUSY, 0, w.fire(0, 2) - 1, (x, v) -> x.patch(0, v));
        bounds("k of three", TWENTY_FIRES, 0, 2, (x, v) -> x.patch(19, v));
        refused("of GONE", BUSY, (x, v) -> x.patch(3, v), outside(1, 0));
        promise = "30 blind, NONE: there is no k-th";
        bounds("k", EIGHT_TOWERS, 0, 256 - 9 - 1, (x, v) -> x.blind(v));
        bounds("k without a tower", EIGHT_CREWS, 0, 255, (x, v) -> x.blind(v));
        refused("no square", Watch::new, (x, v) -> x.blind(v), outside(1, 0));
    }

    private static void fires() {
        promise = "13 join, refused: no such fire";
        bounds("f", TWENTY_FIRES, 0, 19, (w, v) -> told(w.join(20, v)));
        refused("OUT", BUSY, w -> told(w.join(3, 1)));
        refused("GONE", BUSY, w -> told(w.join(3, 3)));
        refused("not begun", BUSY, (w, v) -> told(w.join(3, v)), 4, 19, 20);
        promise = "14 begin, refused: there were 20";
        refused("a 21st", TWENTY_FIRES, w -> w.begin(20));
        promise = "17 out, refused: none such that BURNS";
        bounds("f", TWENTY_FIRES, 0, 19, (w, v) -> told(w.out(v)));
        refused("OUT, GONE, not begun", BUSY, (w, v) -> told(w.out(v)), 1, 3, 4, 19, 20);
        promise = "18 fire, NONE: none such";
        bounds("f", TWENTY_FIRES, 0, 19, (w, v) -> w.fire(v, 0));
        bounds("f of four", BUSY, 0, 3, (w, v) -> w.fire(v, 0));
        promise = "19 patch, NONE: no such fire";
        bounds("f", TWENTY_FIRES, 0, 19, (w, v) -> w.patch(v, 0));
        promise = "21 next, NONE: no such fire that BURNS";
        bounds("f", TWENTY_FIRES, 0, 19, (w, v) -> w.next(v));
        refused("OUT, GONE, not begun", BUSY, (w, v) -> w.next(v), 1, 3, 4, 19, 20);
        promise = "28 sent, NONE: none";
        bounds("f", TWO_SENT, 0, 19, (w, v) -> w.sent(v));
        refused("OUT", TWO_SENT, (w, v) -> w.sent(v), 1, 2, 9, 17, 18, 20);
    }

    private static void crews() {
        promise = "22 crew, refused: it's missing";
        bounds("r", BUSY, 0, 15, (w, v) -> w.crew(v, 3));
        bounds("c", BUSY, 0, 15, (w, v) -> w.crew(3, v));
        promise = "22 crew, refused: there are 8";
        refused("a ninth", EIGHT_CREWS, w -> w.crew(3, 3));
        promise = "23 move, refused: no such crew";
        bounds("k", EIGHT_CREWS, 0, 7, (w, v) -> told(w.move(v, 3, 3)));
        bounds("k of two", BUSY, 0, 1, (w, v) -> told(w.move(v, 3, 3)));
        promise = "23 move, refused: it's missing";
        bounds("r", BUSY, 0, 15, (w, v) -> told(w.move(0, v, 3)));
        bounds("c", BUSY, 0, 15, (w, v) -> told(w.move(0, 3, v)));
        promise = "24 place, NONE: no such crew";
        bounds("k", EIGHT_CREWS, 0, 7, (w, v) -> w.place(v));
        bounds("k of two", BUSY, 0, 1, (w, v) -> w.place(v));
        promise = "25 minutes, NONE: no such crew, it's missing";
        bounds("k", EIGHT_CREWS, 0, 7, (w, v) -> w.minutes(v, 3, 3));
        bounds("r", BUSY, 0, 15, (w, v) -> w.minutes(0, v, 3));
        bounds("c", BUSY, 0, 15, (w, v) -> w.minutes(0, 3, v));
    }

    private static void waysOfCrews() {
        promise = "26 way, NONE: no such crew, it's missing";
        bounds("k", EIGHT_CREWS, 0, 7, (w, v) -> w.way(v, 3, 3, 0));
        bounds("r", BUSY, 0, 15, (w, v) -> w.way(0, v, 3, 0));
        bounds("c", BUSY, 0, 15, (w, v) -> w.way(0, 3, v, 0));
        promise = "26 way, NONE: no such i";
        bounds("i of 13 steps", EIGHT_CREWS, 0, 13, (w, v) -> w.way(0, 6, 7, v));
        bounds("i of 30 steps", EIGHT_CREWS, 0, 30, (w, v) -> w.way(0, 15, 15, v));
        bounds("i to its own", EIGHT_CREWS, 0, 0, (w, v) -> w.way(0, 0, 0, v));
    }

    private static void claims() {
        promise = "32 claim, refused: no such place of the log";
        bounds("i", BUSY, 0, 59, (w, v) -> told(w.claim(v, 9)));
        bounds("i, alone", BUSY, 0, 59, (w, v) -> told(w.claim(v, NONE)));
        promise = "32 claim, refused: no such f";
        bounds("f", BUSY, NONE, 59, (w, v) -> told(w.claim(0, v)));
        bounds("f", BUSY, NONE, 59, (w, v) -> told(w.claim(6, v)));
        bounds("f of nothing", BUSY, NONE, 59, (w, v) -> told(w.claim(59, v)));
    }

    private static final int[] LENGTHS = {16, 1, 0, 5, 15, 2, 14, 16, 3, 0, 0, 8, 8, 16, 1, 15};

    /** The pairs of rows and columns of -1 to 16, a number each; just those that are there, or just the others. */
    private static int[] pairs(boolean there) {
        return IntStream.range(0, 18 * 18).filter(pair -> there == isThere(row(pair), column(pair))).toArray();
    }

    private static boolean isThere(int r, int c) {
        return r >= 0 && r < 16 && c >= 0 && c < LENGTHS[r];
    }

    private static int row(int pair) {
        return pair / 18 - 1;
    }

    private static int column(int pair) {
        return pair % 18 - 1;
    }

    private static void missingSquares() {
        promise = "1 where there is no square it's missing";
        int[] all = pairs(false);
        refused("square", RAGGED, (w, v) -> told(w.square(row(v), column(v), 77, 9)), all);
        refused("tower", RAGGED, (w, v) -> w.tower(row(v), column(v), 9), all);
        refused("see", RAGGED, (w, v) -> w.see(0, row(v), column(v)), all);
        refused("hidden", RAGGED, (w, v) -> w.hidden(0, row(v), column(v)), all);
        refused("report", RAGGED_AND_BUSY, (w, v) -> w.report(row(v), column(v), 9, 1, 1, 90), all);
        refused("crew", RAGGED_AND_BUSY, (w, v) -> w.crew(row(v), column(v)), all);
        refused("move", RAGGED_AND_BUSY, (w, v) -> told(w.move(0, row(v), column(v))), all);
        refused("minutes", RAGGED_AND_BUSY, (w, v) -> w.minutes(0, row(v), column(v)), all);
        refused("way", RAGGED_AND_BUSY, (w, v) -> w.way(0, row(v), column(v), 0), all);
    }

    private static void squaresThatAreThere() {
        promise = "1 where there is a square it isn't missing";
        int[] all = pairs(true);
        is("squares", all.length, ragged().count(5));
        taken("square", RAGGED, (w, v) -> told(w.square(row(v), column(v), 77, 9)), all);
        taken("tower", RAGGED, (w, v) -> w.tower(row(v), column(v), 9), all);
        taken("see", RAGGED, (w, v) -> w.see(0, row(v), column(v)), all);
        taken("report", RAGGED_AND_BUSY, (w, v) -> w.report(row(v), column(v), 9, 1, 1, 90), all);
        taken("crew", RAGGED_AND_BUSY, (w, v) -> w.crew(row(v), column(v)), all);
    }

    /** The crew is among rows 3 to 8; rows 0 and 1 and rows 11 to 15 lie behind missing ones. */
    private static void noWays() {
        promise = "23 move, refused, 25 minutes and 26 way, NONE: no WAY leads there";
        int[] near = IntStream.of(pairs(true)).filter(v -> row(v) >= 3 && row(v) <= 8).toArray();
        int[] far = IntStream.of(pairs(true)).filter(v -> row(v) < 3 || row(v) > 8).toArray();
        refused("move", RAGGED_AND_BUSY, (w, v) -> told(w.move(0, row(v), column(v))), far);
        refused("minutes", RAGGED_AND_BUSY, (w, v) -> w.minutes(0, row(v), column(v)), far);
        refused("way", RAGGED_AND_BUSY, (w, v) -> w.way(0, row(v), column(v), 0), far);
        taken("move", RAGGED_AND_BUSY, (w, v) -> told(w.move(0, row(v), column(v))), near);
        taken("minutes", RAGGED_AND_BUSY, (w, v) -> w.minutes(0, row(v), column(v)), near);
        taken("way", RAGGED_AND_BUSY, (w, v) -> w.way(0, row(v), column(v), 0), near);
    }

    private static void sending() {
        promise = "27 send, refused: more BURN than there are crews";
        refused("twenty", TWENTY_FIRES, w -> w.send());
        promise = "27 send, refused: no fire BURNS";
        refused("none", EIGHT_CREWS, w -> w.send());
    }
}
