/**
 * The boundary cases of the promises, 1 to 35, that lie in what has been done before: empty, full,
 * joined, OUT, GONE, without a way. Behind a refused call the state is looked at (see Bounds).
 */
public final class PromisesEdgesTest extends Bounds {
    public static void main(String[] args) {
        newObject();
        rows();
        squaresOfTheWood();
        towers();
        places();
        clears();
        logs();
        joins();
        begins();
        aparts();
        offices();
        outsAndFires();
        fewests();
        nexts();
        nextByTheFirstAndTheLastSquare();
        crewsAndMoves();
        sends();
        blinds();
        bests();
        claims();
        checks();
        undos();
        finish("all edges of the promises hold");
    }

    private static void newObject() {
        promise = "1 a new object, refused: all that needs a ROW";
        Start fresh = Watch::new;
        refused("square", fresh, w -> told(w.square(0, 0, 0, 1)));
        refused("tower", fresh, w -> w.tower(0, 0, 0));
        refused("see", fresh, w -> w.see(0, 0, 0));
        refused("hidden", fresh, w -> w.hidden(0, 0, 0));
        refused("sight", fresh, w -> w.sight(0, 0, 0, 1, 0, 0, 1, 0));
        refused("report", fresh, w -> w.report(0, 0, 0, 1, 0, 0));
        refused("clear", fresh, w -> told(w.clear(0)));
        refused("log", fresh, w -> w.log(0, 1));
        refused("squares", fresh, w -> w.squares(0, 0));
        refused("join", fresh, w -> told(w.join(0, 0)));
        refused("begin", fresh, w -> w.begin(0));
        refused("apart", fresh, w -> told(w.apart(0)));
        refused("out", fresh, w -> told(w.out(0)));
        refused("fire", fresh, w -> w.fire(0, 0));
        refused("patch", fresh, w -> w.patch(0, 0));
        refused("next", fresh, w -> w.next(0));
        refused("crew", fresh, w -> w.crew(0, 0));
        refused("move", fresh, w -> told(w.move(0, 0, 0)));
        refused("place", fresh, w -> w.place(0));
        refused("minutes", fresh, w -> w.minutes(0, 0, 0));
        refused("way", fresh, w -> w.way(0, 0, 0, 0));
        refused("send", fresh, w -> w.send());
        refused("sent", fresh, w -> w.sent(0));
        refused("blind", fresh, w -> w.blind(0));
        refused("best", fresh, w -> w.best());
        refused("check", fresh, w -> w.check());
        refused("undo", fresh, w -> told(w.undo()));
        promise = "1 a new object";
        Watch w = new Watch();
        is("office", w.office(), 0);
        is("fewest", w.fewest(MIN, MAX), 0);
        is("blinds", w.blinds(), 0);
        is("a REMARK needs no ROW", w.remark(5), 0);
        yes("nor does a claim", w.claim(0, 0));
    }

    private static void rows() {
        promise = "2 row, 0: it is missing";
        Watch w = flat(3);
        yes("row", w.row(1, 0, MIN, MAX));
        is("squares", w.count(5), 6);
        is("crew", w.crew(1, 0), NONE);
        yes("missing already", w.row(1, 0, 0, 0));
        yes("of one square", w.row(1, 1, 0, 1));
        is("squares", w.count(5), 7);
        promise = "2 row: all of a height and MINUTES";
        w = flat(3);
        w.square(1, 1, 70, 9);
        yes("the same ROW anew", w.row(1, 3, 20, 4));
        w.crew(0, 1);
        is("(1, 1) is as the others", w.minutes(0, 1, 1), 4 + 2);
        is("level", w.minutes(0, 1, 2), 1 + 4 + 2);
    }

    // 3 square

    private static void squaresOfTheWood() {
        promise = "3 square, refused: some place of the log is there";
        refused("a BEARING", () -> withSight(0), w -> told(w.square(0, 0, 5, 5)));
        refused("a GLOW", () -> withSight(3), w -> told(w.square(2, 2, 5, 5)));
        refused("a REPORT", PromisesEdgesTest::withReport, w -> told(w.square(2, 2, 5, 5)));
        refused("a REMARK", PromisesEdgesTest::withRemark, w -> told(w.square(0, 0, 5, 5)));
        refused("place 59 alone", PromisesEdgesTest::withTheLastPlace, w -> told(w.square(0, 0, 5, 5)));
        promise = "3 square, refused: a fire is there";
        refused("BURNS", PromisesEdgesTest::withAFire, w -> told(w.square(0, 0, 5, 5)));
        refused("GONE, the log has nothing", PromisesEdgesTest::withGone, w -> told(w.square(0, 0, 5, 5)));
        promise = "3 square, refused: a crew is there";
        refused("somewhere", PromisesEdgesTest::withACrew, w -> told(w.square(0, 0, 5, 5)));
        refused("on it", PromisesEdgesTest::withACrew, w -> told(w.square(2, 2, 5, 5)));
        squareIsTakenAgain();
        squareLeavesAllElse();
    }

    private static Watch withSight(int kind) {
        Watch w = flat(3);
        w.tower(0, 0, 10);
        w.sight(kind, 0, 1, 1, 1, 0, 5, 0);
        return w;
    }

    private static Watch withReport() {
        Watch w = flat(3);
        w.report(0, 0, 1, 1, 1, 0);
        return w;
    }

    private static Watch withRemark() {
        Watch w = flat(3);
        w.tower(0, 0, 10);
        w.remark(0);
        return w;
    }

    private static Watch withTheLastPlace() {
        Watch w = flat(3);
        for (int i = 0; i < 60; i++) {
            w.remark(i);
        }
        for (int i = 0; i < 59; i++) {
            w.clear(i);
        }
        return w;
    }

    private static Watch withAFire() {
        Watch w = withReport();
        w.begin(0);
        return w;
    }

    private static Watch withGone() {
        Watch w = withAFire();
        w.apart(0);
        w.clear(0);
        return w;
    }

    private static Watch withACrew() {
        Watch w = flat(3);
        w.crew(2, 2);
        return w;
    }

    private static void squareIsTakenAgain() {
        promise = "3 square: taken again when nothing of these is there";
        Watch w = withTheLastPlace();
        w.clear(59);
        yes("all is cleared", w.square(0, 0, 5, 5));
        w = withReport();
        w.undo();
        yes("the REPORT is undone", w.square(0, 0, 5, 5));
        w = withACrew();
        w.undo();
        yes("the crew is undone", w.square(0, 0, 5, 5));
        w = withAFire();
        w.undo();
        no("the fire is undone, not the REPORT", w.square(0, 0, 5, 5));
        w.undo();
        yes("both are undone", w.square(0, 0, 5, 5));
    }

    private static void squareLeavesAllElse() {
        promise = "3 square: all else stays";
        Watch w = flat(3);
        w.tower(0, 0, 10);
        w.claim(1, 4);
        w.remark(7);
        w.clear(0);
        yes("square", w.square(1, 1, 500, 30));
        is("towers", w.count(0), 1);
        is("acts", w.count(4), 2);
        is("squares", w.count(5), 9);
        is("the tower sees anew", w.hidden(0, 2, 2), 17);
        is("what no tower sees is anew", w.blinds(), 3);
        yes("undo", w.undo());
        is("the REMARK", w.log(0, 1), 7);
        w.undo();
        w.crew(0, 1);
        is("its MINUTES and height", w.minutes(0, 1, 1), 30 + 50);
        is("those beside stay", w.minutes(0, 0, 2), 1);
        is("round it", w.minutes(0, 2, 1), 4);
    }

    // 4 tower

    private static void towers() {
        promise = "4 tower, refused: the log has a place that isn't nothing";
        refused("a BEARING", () -> withSight(0), w -> w.tower(1, 1, 5));
        refused("a REPORT", PromisesEdgesTest::withReport, w -> w.tower(1, 1, 5));
        refused("a REMARK", PromisesEdgesTest::withRemark, w -> w.tower(1, 1, 5));
        refused("place 59 alone", PromisesEdgesTest::withTheLastPlace, w -> w.tower(1, 1, 5));
        promise = "4 tower: what doesn't hinder it";
        Watch w = withTheLastPlace();
        w.clear(59);
        is("all is cleared", w.tower(1, 1, 5), 0);
        w = withReport();
        w.undo();
        is("the REPORT is undone", w.tower(1, 1, 5), 0);
        is("a crew", withACrew().tower(2, 2, 5), 0);
        is("a fire that is GONE", withGone().tower(1, 1, 5), 0);
        promise = "4 tower, refused: there are 8";
        w = flat(3);
        for (int t = 0; t < 8; t++) {
            is("tower", w.tower(t / 3, t % 3, 0), t);
        }
        is("a ninth", w.tower(2, 2, 0), NONE);
        is("the last one sees", w.see(7, 2, 1), 1);
        is("towers", w.count(0), 8);
    }

    // 7 sight, 8 report, 9 remark

    private static void places() {
        promise = "7 sight, 8 report, 9 remark: the first place that has nothing";
        Watch w = flat(3);
        w.tower(0, 0, 10);
        for (int i = 0; i < 60; i++) {
            is("place", placeOf(w, i % 3), i);
        }
        for (int kind = 0; kind < 3; kind++) {
            is("there are 60", placeOf(w, kind), NONE);
        }
        for (int i : new int[] {59, 0, 31}) {
            yes("clear", w.clear(i));
            for (int kind = 0; kind < 3; kind++) {
                is("the only one", placeOf(w, kind), i);
                is("there are 60", placeOf(w, kind), NONE);
                yes("clear", w.clear(i));
            }
            is("again", w.remark(0), i);
        }
        w.clear(40);
        w.clear(12);
        w.clear(50);
        is("the first", w.remark(0), 12);
        is("then", w.remark(0), 40);
        is("then", w.remark(0), 50);
        is("places", w.count(1), 60);
        numbersOfRemarks();
    }

    private static int placeOf(Watch w, int kind) {
        return kind == 0 ? w.sight(0, 0, 1, 1, 1, 0, 0, 0) : kind == 1 ? w.report(0, 0, 1, 1, 1, 0) : w.remark(9);
    }

    private static void numbersOfRemarks() {
        promise = "9 remark: any number";
        Watch w = new Watch();
        int[] numbers = {MIN, MIN + 1, -1, 0, 1, 9999, 10000, MAX - 1, MAX};
        for (int n = 0; n < numbers.length; n++) {
            is("remark", w.remark(numbers[n]), n);
            is("its number", w.log(n, 1), numbers[n]);
        }
        is("it is of no MINUTE", w.fewest(MIN, MAX), 0);
    }

    // 10 clear

    private static void clears() {
        promise = "10 clear, refused: JOINED to a fire";
        refused("BURNS", PromisesEdgesTest::withAFire, w -> told(w.clear(0)));
        refused("OUT", PromisesEdgesTest::withOut, w -> told(w.clear(0)));
        promise = "10 clear, refused: it has nothing";
        refused("never had", PromisesEdgesTest::withAFire, w -> told(w.clear(1)));
        refused("any more", PromisesEdgesTest::withGone, w -> told(w.clear(0)));
        promise = "10 clear";
        Watch w = withAFire();
        w.apart(0);
        yes("it has left", w.clear(0));
        no("it has nothing", w.clear(0));
        yes("a REMARK", withRemark().clear(0));
        yes("never joined", withReport().clear(0));
        yes("place 59", withTheLastPlace().clear(59));
        w = withSight(1);
        yes("clear", w.clear(0));
        for (int what = 1; what < 7; what++) {
            is("it has nothing", w.log(0, what), NONE);
        }
        is("no SQUARES", w.squares(0, 0), NONE);
        is("places", w.count(1), 0);
    }

    private static Watch withOut() {
        Watch w = withAFire();
        w.out(0);
        return w;
    }

    // 11 log

    private static void logs() {
        promise = "11 log: NONE where there is none such";
        Watch w = flat(4);
        w.tower(0, 0, 20);
        int half = Float.floatToIntBits(0.5f);
        w.sight(0, 0, 3, 1, 1, 0, 7, half);
        w.sight(1, 0, 3, 1, 1, 0, 7, half);
        w.sight(2, 0, 3, 1, 1, 0, 7, half);
        w.sight(3, 0, 3, 1, 1, 0, 7, half);
        w.report(0, 0, 3, 1, 1, 0);
        w.remark(3);
        int[][] dues = {{0, 3, 0, 3, NONE, NONE, 0}, {1, 3, 0, 3, NONE, 7, 0}, {2, 3, 0, 2, NONE, 4, 0},
            {3, 3, 0, 3, NONE, NONE, 0}, {4, 3, NONE, 3, NONE, NONE, 0},
            {5, 3, NONE, NONE, NONE, NONE, NONE}, {6, NONE, NONE, NONE, NONE, NONE, NONE}};
        for (int i = 0; i < dues.length; i++) {
            for (int what = 0; what < 7; what++) {
                is("log(" + i + ", " + what + ")", w.log(i, what), dues[i][what]);
            }
            is("log(" + i + ", -1)", w.log(i, -1), NONE);
            is("log(" + i + ", 7)", w.log(i, 7), NONE);
            is("log(" + i + ", MIN)", w.log(i, MIN), NONE);
            is("log(" + i + ", MAX)", w.log(i, MAX), NONE);
        }
        for (int what = 0; what < 7; what++) {
            is("log(-1, " + what + ")", w.log(-1, what), NONE);
            is("log(60, " + what + ")", w.log(60, what), NONE);
        }
    }

    // 13 join

    private static void joins() {
        promise = "13 join, refused: it is in one";
        refused("in this", PromisesEdgesTest::twoFires, w -> told(w.join(0, 0)));
        refused("in another", PromisesEdgesTest::twoFires, w -> told(w.join(0, 1)));
        refused("in one that is OUT", PromisesEdgesTest::twoFiresOneOut, w -> told(w.join(1, 0)));
        promise = "13 join, refused: the fire doesn't BURN";
        refused("OUT", PromisesEdgesTest::twoFiresOneOut, w -> told(w.join(2, 1)));
        refused("GONE", PromisesEdgesTest::twoFiresOneGone, w -> told(w.join(2, 1)));
        refused("GONE, what was its own", PromisesEdgesTest::twoFiresOneGone, w -> told(w.join(1, 1)));
        refused("not begun", PromisesEdgesTest::twoFires, w -> told(w.join(2, 2)));
        promise = "13 join, refused: the same tower and MINUTE";
        refused("another DIRECTION and kind", PromisesEdgesTest::twoFires, w -> told(w.join(3, 0)));
        promise = "13 join, refused: the PATCH would be empty";
        refused("no square in common", PromisesEdgesTest::twoFires, w -> told(w.join(4, 0)));
        refused("no SQUARES at all", PromisesEdgesTest::twoFires, w -> told(w.join(5, 0)));
        promise = "13 join, refused: it is no SIGHTING";
        refused("a REMARK", PromisesEdgesTest::twoFires, w -> told(w.join(6, 0)));
        refused("nothing", PromisesEdgesTest::twoFires, w -> told(w.join(7, 0)));
        promise = "13 join";
        Watch w = twoFires();
        yes("it FITS", w.join(2, 0));
        is("its fire", w.log(2, 4), 0);
        is("two", w.fire(0, 1), 2);
        w = twoFires();
        yes("it FITS the other too", w.join(2, 1));
        w = twoFiresOneOut();
        w.undo();
        yes("undone, it BURNS again", w.join(2, 1));
        w = twoFiresOneGone();
        w.undo();
        yes("undone, it BURNS again", w.join(2, 1));
    }

    /** 0 and 1 are fires, 2 FITS both, 3 clashes with 0, 4 has nothing in common, 5 has no SQUARES, 6 is a REMARK. */
    private static Watch twoFires() {
        Watch w = flat(5);
        w.tower(0, 0, 50);
        w.sight(0, 0, 10, 1, 1, 0, 0, 0);
        w.report(0, 0, 10, 1, 1, 0);
        w.sight(0, 0, 11, 1, 1, 0, 0, 0);
        w.sight(3, 0, 10, 1, 1, 90, 0, 0);
        w.report(0, 0, 10, 1, 0, 0);
        w.report(0, 0, 10, -1, 0, 400);
        w.remark(10);
        w.begin(0);
        w.begin(1);
        return w;
    }

    private static Watch twoFiresOneOut() {
        Watch w = twoFires();
        w.out(1);
        return w;
    }

    private static Watch twoFiresOneGone() {
        Watch w = twoFires();
        w.apart(1);
        return w;
    }

    // 14 begin

    private static void begins() {
        promise = "14 begin, refused: no such";
        refused("a REMARK", PromisesEdgesTest::twoFires, w -> w.begin(6));
        refused("nothing", PromisesEdgesTest::twoFires, w -> w.begin(7));
        promise = "14 begin, refused: it is in one";
        refused("BURNS", PromisesEdgesTest::twoFires, w -> w.begin(0));
        refused("OUT", PromisesEdgesTest::twoFiresOneOut, w -> w.begin(1));
        promise = "14 begin, refused: it has no SQUARES";
        refused("aside of the wood", PromisesEdgesTest::twoFires, w -> w.begin(5));
        promise = "14 begin, refused: there were 20";
        refused("all GONE", PromisesEdgesTest::twentyGone, w -> w.begin(0));
        promise = "14 begin";
        Watch w = twentyGone();
        w.undo();
        w.undo();
        is("19 when the last is undone", w.count(2), 19);
        is("so there's one more", w.begin(0), 19);
        w.apart(0);
        is("and no more", w.begin(0), NONE);
        w = twoFiresOneGone();
        is("what is GONE isn't used again", w.begin(1), 2);
        w = flat(2);
        w.report(0, 0, 1, 0, 1, 0);
        is("one square is enough", w.begin(0), 0);
        is("a PATCH of one", w.fire(0, 2), 1);
    }

    private static Watch twentyGone() {
        Watch w = withReport();
        for (int f = 0; f < 20; f++) {
            w.begin(0);
            w.apart(0);
        }
        return w;
    }

    // 15 apart

    private static void aparts() {
        promise = "15 apart, refused: it is in none";
        refused("a SIGHTING", PromisesEdgesTest::twoFires, w -> told(w.apart(2)));
        refused("a REMARK", PromisesEdgesTest::twoFires, w -> told(w.apart(6)));
        refused("nothing", PromisesEdgesTest::twoFires, w -> told(w.apart(59)));
        refused("any more", PromisesEdgesTest::twoFiresOneGone, w -> told(w.apart(1)));
        promise = "15 apart, refused: in one that is OUT";
        refused("OUT", PromisesEdgesTest::twoFiresOneOut, w -> told(w.apart(1)));
        promise = "15 apart";
        Watch w = twoFires();
        w.join(2, 0);
        yes("the one it was begun with", w.apart(0));
        is("it BURNS", w.fire(0, 0), 0);
        is("one", w.fire(0, 1), 1);
        yes("the last one", w.apart(2));
        is("GONE", w.fire(0, 0), 2);
        is("none", w.fire(0, 1), 0);
        is("no PATCH", w.fire(0, 2), 0);
        is("no square", w.patch(0, 0), NONE);
        is("no MIDDLE", w.fire(0, 3), NONE);
        is("fires ever", w.count(2), 2);
        w = twoFiresOneOut();
        w.undo();
        yes("undone, it BURNS", w.apart(1));
    }

    // 16 office

    private static void offices() {
        promise = "16 office: till there is none";
        is("one FITS two, the others none", fitsTwo().office(), 0);
        refused("0 does nothing", PromisesEdgesTest::fitsTwo, w -> w.office() == 0 ? NONE : 1);
        is("with no fire", withReport().office(), 0);
        is("with a fire and no other", withAFire().office(), 0);
        is("one FITS two, one FITS one", twoFires().office(), 1);
        Watch w = flat(3);
        for (int i = 0; i < 60; i++) {
            w.report(0, 0, i, 1, 1, 0);
        }
        w.begin(59);
        is("all the others", w.office(), 59);
        is("all are in it", w.fire(0, 1), 60);
        is("the latest 50", w.count(4), 50);
        is("none is left", w.office(), 0);
        oneOfOneTowerAndMinute();
    }

    /** 2 FITS fires 0 and 1, 3 FITS none. */
    private static Watch fitsTwo() {
        Watch w = flat(4);
        w.report(0, 0, 1, 1, 1, 0);
        w.report(0, 0, 1, 1, 1, 0);
        w.report(0, 0, 1, 1, 1, 0);
        w.report(0, 0, 1, 1, 0, 0);
        w.begin(0);
        w.begin(1);
        return w;
    }

    private static void oneOfOneTowerAndMinute() {
        promise = "16 office: the first by places";
        Watch w = flat(4);
        w.tower(0, 0, 50);
        w.report(0, 0, 1, 1, 1, 0);
        for (int i = 1; i < 4; i++) {
            w.sight(0, 0, 5, 1, 1, 0, 0, 0);
        }
        w.begin(0);
        is("three fit", w.log(1, 6) + w.log(2, 6) + w.log(3, 6), 3);
        is("but one is JOINED", w.office(), 1);
        is("the first", w.log(1, 4), 0);
        is("not the next", w.log(2, 4), NONE);
        is("they fit no more", w.log(2, 6) + w.log(3, 6), 0);
    }

    // 17 out, 18 fire, 19 patch

    private static void outsAndFires() {
        promise = "17 out, refused: none such that BURNS";
        refused("OUT already", PromisesEdgesTest::twoFiresOneOut, w -> told(w.out(1)));
        refused("GONE", PromisesEdgesTest::twoFiresOneGone, w -> told(w.out(1)));
        refused("not begun", PromisesEdgesTest::twoFires, w -> told(w.out(2)));
        promise = "17 out: its SIGHTINGS stay in it";
        Watch w = twoFires();
        w.join(2, 0);
        yes("out", w.out(0));
        is("how many", w.fire(0, 1), 2);
        is("the first", w.log(0, 4), 0);
        is("the other", w.log(2, 4), 0);
        is("its PATCH", w.fire(0, 2), 4);
        is("its MIDDLE", w.fire(0, 3), 34);
        promise = "18 fire: NONE where there is none such";
        w = twoFires();
        for (int what = -1; what <= 5; what++) {
            is("fire(2, " + what + ")", w.fire(2, what), NONE);
            is("fire(-1, " + what + ")", w.fire(-1, what), NONE);
        }
        is("what -1", w.fire(0, -1), NONE);
        is("what 5", w.fire(0, 5), NONE);
        promise = "18 fire: of GONE";
        w = twoFiresOneGone();
        int[] dues = {2, 0, 0, NONE, NONE};
        for (int what = 0; what < 5; what++) {
            is("fire(1, " + what + ")", w.fire(1, what), dues[what]);
        }
        promise = "18 fire: an undone one is none";
        w = twoFires();
        w.undo();
        is("fire", w.fire(1, 0), NONE);
        is("patch", w.patch(1, 0), NONE);
        no("out", w.out(1));
        is("next", w.next(1), NONE);
        no("join", w.join(2, 1));
    }

    // 20 fewest

    private static void fewests() {
        promise = "20 fewest, NONE: there are more than 10";
        Watch w = flat(4);
        w.tower(0, 0, 50);
        for (int n = 0; n < 10; n++) {
            w.sight(0, 0, 20, 1, 1, 0, 0, 0);
        }
        is("ten of one tower and MINUTE", w.fewest(20, 20), 10);
        w.sight(0, 0, 21, 1, 1, 0, 0, 0);
        is("eleven", w.fewest(20, 21), NONE);
        is("ten of eleven", w.fewest(20, 20), 10);
        is("one of eleven", w.fewest(21, 21), 1);
        is("eleven", w.fewest(MIN, MAX), NONE);
        yes("clear", w.clear(0));
        is("ten again", w.fewest(20, 21), 9);
        promise = "20 fewest, 0 of none";
        is("ahead", w.fewest(0, 19), 0);
        is("behind", w.fewest(22, 9999), 0);
        is("from above to", w.fewest(21, 20), 0);
        is("from MAX to MIN", w.fewest(MAX, MIN), 0);
        is("a REMARK is none", fewestOfARemark(), 0);
        promise = "20 fewest: the MINUTES from .. to";
        is("from is of them", w.fewest(21, MAX), 1);
        is("to is of them", w.fewest(MIN, 20), 9);
        minutesAtTheirBounds();
        withoutSquares();
        whateverTheyAreJoinedTo();
    }

    private static int fewestOfARemark() {
        Watch w = flat(2);
        w.remark(5);
        return w.fewest(0, 10);
    }

    private static void minutesAtTheirBounds() {
        Watch w = flat(3);
        w.report(0, 0, 0, 1, 1, 0);
        w.report(0, 0, 9999, 1, 1, 0);
        is("the first MINUTE", w.fewest(0, 0), 1);
        is("the last MINUTE", w.fewest(9999, 9999), 1);
        is("none between", w.fewest(1, 9998), 0);
        is("both", w.fewest(0, 9999), 1);
        promise = "20 fewest: all places of the log";
        w = flat(3);
        w.tower(0, 0, 10);
        for (int i = 0; i < 60; i++) {
            w.sight(0, 0, i == 0 || i == 59 ? 5000 : i, 1, 1, 0, 0, 0);
        }
        is("the first and the last", w.fewest(5000, 5000), 2);
        is("ten between", w.fewest(40, 49), 1);
        is("eleven between", w.fewest(40, 50), NONE);
        is("the last of them", w.fewest(58, 58), 1);
    }

    private static void withoutSquares() {
        promise = "20 fewest, NONE: one of them has no SQUARES";
        Watch w = flat(3);
        w.report(0, 0, 1, 1, 1, 0);
        w.report(0, 0, 2, -1, 0, 0);
        is("it alone", w.fewest(2, 2), NONE);
        is("both", w.fewest(1, 2), NONE);
        is("the other", w.fewest(1, 1), 1);
    }

    private static void whateverTheyAreJoinedTo() {
        promise = "20 fewest: whatever they are JOINED to now";
        Watch w = twoFiresOneOut();
        is("of a fire that BURNS and one that is OUT", w.fewest(10, 10), NONE);
        w.clear(5);
        is("0 and 1 together, 3, 4", w.fewest(10, 10), 3);
        is("it changes nothing", w.fire(0, 1) + w.fire(1, 1), 2);
        is("0, 1 and 2 together, 3, 4", w.fewest(10, 11), 3);
    }

    // 21 next

    private static void nexts() {
        promise = "21 next, NONE: no tower";
        is("next", withAFire().next(0), NONE);
        promise = "21 next, NONE: no such fire that BURNS";
        is("OUT", twoFiresOneOut().next(1), NONE);
        is("GONE", twoFiresOneGone().next(1), NONE);
        is("not begun", twoFires().next(2), NONE);
        is("-1", twoFires().next(-1), NONE);
        promise = "21 next: the first by t, then d";
        Watch w = flat(5);
        w.tower(4, 4, 0);
        w.tower(4, 4, 0);
        w.report(0, 0, 1, 0, 1, 0);
        w.begin(0);
        is("none has any of it", w.next(0), 0);
        w = flat(5);
        for (int t = 0; t < 8; t++) {
            w.tower(t < 7 ? 4 : 1, t < 7 ? 4 : 3, 0);
        }
        w.report(0, 0, 1, 0, 1, 0);
        w.report(4, 2, 1, -1, 0, 0);
        w.begin(0);
        w.join(1, 0);
        patchIs(w, 0, 2);
        is("of one square 1 is the greater part by all", w.next(0), 0);
        w = flat(5);
        for (int t = 0; t < 8; t++) {
            w.tower(t < 7 ? 4 : 1, t < 7 ? 4 : 3, 0);
        }
        w.report(0, 3, 1, 0, -1, 90);
        w.begin(0);
        patchIs(w, 0, 0, 1, 2, 16, 17, 32);
        is("the last tower sees (0, 2), in its last direction", w.next(0), 8 * 7 + 7);
    }

    private static void nextByTheFirstAndTheLastSquare() {
        promise = "21 next: the first and the last square of a PATCH";
        Watch w = flat(16);
        w.tower(0, 1, 5);
        w.report(0, 3, 1, 0, -1, 0);
        w.begin(0);
        patchIs(w, 0, 0, 1, 2);
        is("to the right (0, 2), to the left (0, 0): the first", w.next(0), 2);
        w = flat(16);
        w.tower(0, 2, 5);
        w.report(0, 3, 1, 0, -1, 0);
        w.begin(0);
        is("to the left (0, 0) and (0, 1)", w.next(0), 6);
        w = flat(16);
        w.tower(15, 14, 5);
        w.tower(0, 15, 5);
        w.report(15, 13, 1, 0, 1, 0);
        w.begin(0);
        patchIs(w, 0, 254, 255);
        is("to the right (15, 15)", w.next(0), 2);
    }

    // 22 crew, 23 move, 25 minutes, 26 way

    private static void crewsAndMoves() {
        promise = "22 crew, refused: there are 8";
        Watch w = flat(3);
        for (int k = 0; k < 8; k++) {
            is("crew", w.crew(k / 3, k % 3), k);
        }
        is("a ninth", w.crew(2, 2), NONE);
        is("the last one", w.place(7), 33);
        is("acts", w.count(4), 8);
        yes("undo", w.undo());
        is("seven", w.place(7), NONE);
        is("the eighth again", w.crew(2, 2), 7);
        is("on its new square", w.place(7), 34);
        promise = "23 move, refused: no WAY leads there";
        refused("behind a missing ROW", PromisesEdgesTest::cutOff, x -> told(x.move(0, 3, 0)));
        refused("behind a missing end of a ROW", PromisesEdgesTest::cutOff, x -> told(x.move(1, 0, 0)));
        promise = "25 minutes, NONE, 26 way, NONE: no WAY";
        is("minutes", cutOff().minutes(0, 3, 0), NONE);
        is("way", cutOff().way(0, 3, 0, 0), NONE);
        promise = "25 minutes: 0 to its own";
        is("minutes", cutOff().minutes(0, 0, 0), 0);
        is("minutes", cutOff().minutes(1, 3, 1), 0);
        promise = "26 way: 0 its own one";
        is("way", cutOff().way(1, 3, 1, 0), 49);
        is("no step more", cutOff().way(1, 3, 1, 1), NONE);
        is("way", cutOff().way(1, 3, 0, 0), 49);
        is("a step", cutOff().way(1, 3, 0, 1), 48);
        is("no step more", cutOff().way(1, 3, 0, 2), NONE);
        promise = "23 move: to its own square";
        w = cutOff();
        yes("move", w.move(1, 3, 1));
        is("place", w.place(1), 49);
    }

    /** A crew in ROW 0, one in ROW 3; ROW 1 is there, ROW 2 is missing. */
    private static Watch cutOff() {
        Watch w = new Watch();
        w.row(0, 2, 0, 1);
        w.row(1, 1, 0, 1);
        w.row(3, 2, 0, 1);
        w.crew(0, 0);
        w.crew(3, 1);
        return w;
    }

    // 27 send, 28 sent

    private static void sends() {
        promise = "27 send, refused: what was told before stays";
        Start start = PromisesEdgesTest::sentOnce;
        is("sent", start.make().sent(0), 1);
        refused("more BURN than there are crews", PromisesEdgesTest::moreBurn, w -> w.send());
        refused("no fire BURNS: OUT", PromisesEdgesTest::noneBurns, w -> w.send());
        refused("no fire BURNS: GONE", PromisesEdgesTest::allGone, w -> w.send());
        refused("it can't be done", PromisesEdgesTest::cantBeDone, w -> w.send());
        is("told", moreBurn().sent(0), 1);
        is("told", noneBurns().sent(0), 1);
        is("told", cantBeDone().sent(0), 1);
        promise = "28 sent, NONE: none";
        Watch w = sentOnce();
        is("another fire", w.sent(1), NONE);
        w.begin(1);
        is("a fire begun later", w.sent(1), NONE);
        w.crew(0, 0);
        is("the MIDDLES are (2, 2) and (0, 2)", w.send(), 1 + 2);
        is("fire 0", w.sent(0), 1);
        is("fire 1", w.sent(1), 2);
        w.out(0);
        is("(0, 2) alone", w.send(), 2);
        is("the latest gave it none", w.sent(0), NONE);
        is("the latest", w.sent(1), 2);
        w.undo();
        is("undoing leaves what was told", w.sent(0), NONE);
        is("undoing leaves what was told", w.sent(1), 2);
        w.row(6, 0, 0, 0);
        is("behind a new ROW", w.sent(1), NONE);
        no("a refused ROW", w.row(16, 0, 0, 0));
        promise = "28 sent: a refused ROW takes nothing";
        w = sentOnce();
        no("row", w.row(5, 17, 0, 1));
        is("sent", w.sent(0), 1);
    }

    /** Fire 0 on the diagonal, its MIDDLE (2, 2); crew 1 beside it; crew 0 is far. */
    private static Watch sentOnce() {
        Watch w = flat(4);
        w.report(0, 0, 1, 1, 1, 0);
        w.report(0, 0, 1, 0, 1, 0);
        w.begin(0);
        w.crew(3, 3);
        w.crew(2, 1);
        w.move(0, 0, 3);
        w.send();
        w.undo();
        return w;
    }

    private static Watch moreBurn() {
        Watch w = sentOnce();
        w.begin(1);
        w.report(0, 0, 1, 1, 0, 0);
        w.begin(2);
        return w;
    }

    private static Watch noneBurns() {
        Watch w = sentOnce();
        w.out(0);
        return w;
    }

    private static Watch allGone() {
        Watch w = sentOnce();
        w.apart(0);
        return w;
    }

    private static Watch cantBeDone() {
        Watch w = flat(4);
        w.row(6, 2, 0, 1);
        w.report(0, 0, 1, 1, 1, 0);
        w.report(0, 0, 1, 0, 1, 0);
        w.begin(0);
        w.crew(6, 0);
        w.crew(2, 1);
        w.send();
        w.begin(1);
        return w;
    }

    // 29 blinds, 30 blind, 31 best

    private static void blinds() {
        promise = "29 blinds, 30 blind: no tower, no square, all seen";
        is("no square", new Watch().blinds(), 0);
        is("no square", new Watch().blind(0), NONE);
        Watch w = flat(16);
        is("no tower", w.blinds(), 256);
        is("the first", w.blind(0), 0);
        is("the last", w.blind(255), 255);
        is("behind", w.blind(256), NONE);
        is("ahead", w.blind(-1), NONE);
        w.tower(0, 0, 1);
        is("all seen", w.blinds(), 0);
        is("none", w.blind(0), NONE);
        w = new Watch();
        w.row(15, 1, 0, 1);
        is("one", w.blinds(), 1);
        is("the last ROW's", w.blind(0), 240);
        is("no more", w.blind(1), NONE);
        w.tower(15, 0, 0);
        is("it sees its own", w.blinds(), 0);
    }

    private static void bests() {
        promise = "31 best, NONE: there is none of these";
        is("no square", new Watch().best(), NONE);
        Watch w = flat(4);
        w.tower(0, 0, 1);
        is("all seen", w.best(), NONE);
        promise = "31 best: the least number";
        is("all see all", flat(16).best(), 0);
        w = new Watch();
        w.row(15, 1, 0, 1);
        is("the only one", w.best(), 240);
        w = new Watch();
        w.row(3, 2, 0, 1);
        w.row(5, 2, 0, 1);
        is("two see two, and two two", w.best(), 48);
        w.row(7, 3, 0, 1);
        is("three see three", w.best(), 112);
        w.tower(7, 0, 0);
        w.tower(7, 1, 0);
        w.tower(7, 2, 0);
        is("these are seen", w.best(), 48);
        promise = "31 best: it is told with 8 towers, too";
        w = new Watch();
        w.row(3, 2, 0, 1);
        w.row(5, 2, 0, 1);
        for (int t = 0; t < 8; t++) {
            w.tower(3, 0, 5);
        }
        is("the other ROW", w.best(), 80);
        promise = "31 best: a tower of height 10";
        // From 10 to 2 over two squares it goes out of the middle one at 4, from 10 to 1 at 3 1/4.
        w = new Watch();
        w.row(0, 3, 0, 1);
        w.square(0, 2, 2, 1);
        w.square(0, 1, 4, 1);
        is("4 hides (from 11 on it wouldn't)", w.best(), 1);
        w.square(0, 2, 1, 1);
        w.square(0, 1, 3, 1);
        is("3 doesn't (from 9 it would)", w.best(), 0);
        bestOfTheFirstAndTheLast();
    }

    private static void bestOfTheFirstAndTheLast() {
        promise = "31 best: the first and the last square";
        Watch w = new Watch();
        w.row(0, 1, 0, 1);
        is("the first alone", w.best(), 0);
        w = new Watch();
        w.row(15, 16, 0, 1);
        w.square(15, 14, 3000, 1);
        w.tower(15, 0, 100);
        is("the last alone is blind", w.blind(0), 255);
        is("one", w.blinds(), 1);
        is("over the wall it's seen from the wall", w.best(), 254);
        w = new Watch();
        w.row(15, 16, 0, 1);
        for (int c = 1; c < 15; c += 2) {
            w.square(15, c, 50, 1);
        }
        w.square(15, 15, 3000, 1);
        is("from the last all are seen", w.best(), 255);
    }

    // 32 claim, 33 check

    private static void claims() {
        promise = "32 claim: it need not have a SIGHTING";
        Watch w = flat(3);
        yes("the first place and fire", w.claim(0, 0));
        yes("the last place and fire", w.claim(59, 59));
        yes("alone", w.claim(59, NONE));
        is("nothing is wrong", w.check(), NONE);
        w.remark(1);
        is("a REMARK isn't wrong", w.check(), NONE);
        w.clear(0);
        w.report(0, 0, 1, -1, 0, 0);
        is("a SIGHTING without SQUARES is, made later", w.check(), 0);
        w.undo();
        is("undone", w.check(), NONE);
        promise = "32 claim: at first, and behind a new ROW, all alone";
        w = flat(3);
        for (int i = 0; i < 60; i++) {
            w.report(0, 0, 1, -1, 0, 0);
        }
        is("at first", w.check(), NONE);
        w.claim(59, 59);
        is("the last", w.check(), 59);
        no("a refused ROW", w.row(0, 3, 0, 61));
        is("leaves it", w.check(), 59);
        w.row(0, 3, 0, 1);
        for (int i = 0; i < 60; i++) {
            w.report(0, 0, 1, -1, 0, 0);
        }
        is("behind a new ROW", w.check(), NONE);
        refusedClaims();
    }

    private static void refusedClaims() {
        promise = "32 claim, refused: it stays as it was";
        Watch w = flat(3);
        w.report(0, 0, 1, -1, 0, 0);
        no("f 60", w.claim(0, 60));
        no("f -2", w.claim(0, -2));
        no("f MIN", w.claim(0, MIN));
        no("f MAX", w.claim(0, MAX));
        is("alone still", w.check(), NONE);
        yes("f 59", w.claim(0, 59));
        no("f 60", w.claim(0, 60));
        no("f -2", w.claim(0, -2));
        no("i 60", w.claim(60, NONE));
        no("i -1", w.claim(-1, NONE));
        is("of 59 still", w.check(), 0);
    }

    private static void checks() {
        promise = "33 check, NONE: all is right";
        Watch w = flat(4);
        w.tower(0, 0, 50);
        w.sight(0, 0, 5, 1, 1, 0, 0, 0);
        w.sight(0, 0, 6, 1, 1, 0, 0, 0);
        w.report(0, 0, 5, 1, 1, 0);
        w.report(0, 0, 5, 1, 1, 0);
        for (int i = 0; i < 4; i++) {
            w.claim(i, 0);
        }
        is("a MINUTE apart, callers", w.check(), NONE);
        w.sight(3, 0, 5, 1, 1, 90, 0, 0);
        is("it is alone", w.check(), NONE);
        promise = "33 check: one of the same tower and MINUTE";
        w.claim(4, 0);
        is("with place 0", w.check(), 4);
        w.claim(0, 59);
        is("of another fire now", w.check(), NONE);
        w.claim(0, NONE);
        is("alone now", w.check(), NONE);
        promise = "33 check: no square in common";
        w.report(3, 0, 9, -1, 0, 0);
        w.claim(5, 0);
        is("the column", w.check(), 5);
        w.claim(5, 1);
        is("of another fire", w.check(), NONE);
        promise = "33 check: those ahead, not those behind";
        w.claim(5, 0);
        w.claim(4, NONE);
        w.report(3, 0, 9, -1, 0, 0);
        w.claim(6, 0);
        is("the first", w.check(), 5);
        w.clear(5);
        is("the next", w.check(), 6);
        pairsThatMeet();
    }

    private static void pairsThatMeet() {
        promise = "33 check: all of them have none, though two by two have";
        Watch w = flat(4);
        w.report(0, 0, 1, 0, 1, 0);
        w.report(3, 1, 1, -1, 0, 0);
        w.report(1, 0, 1, 0, 1, 0);
        w.report(3, 3, 1, -1, -1, 0);
        w.claim(0, 7);
        w.claim(1, 7);
        is("(0, 1)", w.check(), NONE);
        w.claim(2, 7);
        is("(0, 1) isn't of ROW 1", w.check(), 2);
        w.claim(0, NONE);
        is("(1, 1)", w.check(), NONE);
        w.claim(3, 7);
        is("(1, 1) is of all three", w.check(), NONE);
    }

    // 34 undo

    private static void undos() {
        promise = "34 undo, false: none can be";
        refused("nothing was done", () -> flat(3), w -> told(w.undo()));
        refused("a tower is no act", PromisesEdgesTest::towersAndClaims, w -> told(w.undo()));
        refused("a new ROW", PromisesEdgesTest::behindARow, w -> told(w.undo()));
        promise = "34 undo: all of the log, fires and crews is as ahead of it";
        asAheadOf("sight", w -> w.sight(1, 0, 12, 1, 1, 30, 9, 0));
        asAheadOf("report", w -> w.report(4, 4, 12, -1, -1, 30));
        asAheadOf("remark", w -> w.remark(4));
        asAheadOf("clear of a SIGHTING", w -> told(w.clear(2)));
        asAheadOf("clear of a REMARK", w -> told(w.clear(6)));
        asAheadOf("join", w -> told(w.join(2, 0)));
        asAheadOf("begin", w -> w.begin(2));
        asAheadOf("apart", w -> told(w.apart(0)));
        asAheadOf("out", w -> told(w.out(0)));
        asAheadOf("crew", w -> w.crew(1, 1));
        asAheadOf("move", w -> told(w.move(0, 1, 1)));
    }

    private static Watch towersAndClaims() {
        Watch w = flat(3);
        w.tower(0, 0, 5);
        w.square(1, 1, 5, 5);
        w.claim(3, 3);
        return w;
    }

    private static Watch behindARow() {
        Watch w = twoFires();
        w.row(4, 5, 0, 1);
        return w;
    }

    /** An act and its undoing together do nothing; so they must look like a refused call. */
    private static void asAheadOf(String name, Ask act) {
        refused(name, PromisesEdgesTest::twoFiresAndACrew, w -> {
            boolean done = act.on(w) != NONE;
            return done && w.undo() ? NONE : 1;
        });
    }

    private static Watch twoFiresAndACrew() {
        Watch w = twoFires();
        w.crew(4, 4);
        return w;
    }
}
