/** The sentences of the document's 'Terms', 1 to 5, that name a boundary case: a test for each. */
public final class TermsEdgesTest extends Checks {
    public static void main(String[] args) {
        wood();
        seen();
        towers();
        theLog();
        squaresOfSightings();
        haze();
        fires();
        crews();
        undoing();
        finish("all edges of the terms hold");
    }

    // ==== 1. THE WOOD

    private static void wood() {
        atFirstAllRowsAreMissing();
        rowsOf1To16Squares();
        sixteenRows();
        heightsAndMinutesAtTheirBounds();
        numbersOfSquares();
        aNewRowTakesAway(4, 4);
        aNewRowTakesAway(4, 0);
        aNewRowTakesAway(9, 0);
        aNewRowTakesAway(4, 16);
        aNewRowLeavesTheOthers();
        aNewRowClearsTheWholeLog();
        theLastSquareIsAsTheOthers();
    }

    private static void atFirstAllRowsAreMissing() {
        promise = "Terms 1: at first all ROWS are missing";
        Watch w = new Watch();
        for (int q = 0; q < 256; q++) {
            is("tower on " + q, w.tower(q / 16, q % 16, 0), NONE);
        }
        is("squares", w.count(5), 0);
    }

    private static void rowsOf1To16Squares() {
        promise = "Terms 1: a ROW is of 1 to 16 SQUARES";
        for (int n = 1; n <= 16; n++) {
            Watch w = new Watch();
            yes("row of " + n, w.row(7, n, 0, 1));
            is("squares", w.count(5), n);
            is("the last", w.crew(7, n - 1), 0);
            is("behind the last", w.crew(7, n), NONE);
            is("ahead of the first", w.crew(7, -1), NONE);
            is("the row above", w.crew(6, 0), NONE);
            is("the row below", w.crew(8, 0), NONE);
        }
        Watch w = new Watch();
        no("of -1", w.row(7, -1, 0, 1));
        no("of 17", w.row(7, 17, 0, 1));
        is("squares", w.count(5), 0);
    }

    private static void sixteenRows() {
        promise = "Terms 1: 16 ROWS";
        Watch w = new Watch();
        for (int r = 0; r < 16; r++) {
            yes("row " + r, w.row(r, 16, 0, 1));
            is("squares", w.count(5), 16 * (r + 1));
        }
        no("row -1", w.row(-1, 16, 0, 1));
        no("row 16", w.row(16, 16, 0, 1));
        is("squares", w.count(5), 256);
        for (int r = 15; r >= 0; r--) {
            yes("missing", w.row(r, 0, 0, 1));
            is("squares", w.count(5), 16 * r);
        }
    }

    private static void heightsAndMinutesAtTheirBounds() {
        promise = "Terms 1: heights -1,000 to 3,000, MINUTES 1 to 60";
        Watch w = new Watch();
        yes("the lowest", w.row(0, 2, -1000, 1));
        yes("the highest", w.row(1, 2, 3000, 60));
        w.crew(0, 0);
        w.crew(1, 0);
        is("up by 4,000", w.minutes(0, 1, 0), 60 + 400);
        is("down by 4,000", w.minutes(1, 0, 0), 1);
        is("beside, below", w.minutes(0, 0, 1), 1);
        is("beside, above", w.minutes(1, 1, 1), 60);
        no("lower", w.row(0, 2, -1001, 1));
        no("higher", w.row(1, 2, 3001, 60));
        no("no MINUTES", w.row(0, 2, -1000, 0));
        no("61 MINUTES", w.row(0, 2, -1000, 61));
        is("as it was", w.minutes(0, 1, 0), 60 + 400);
    }

    private static void numbersOfSquares() {
        promise = "Terms 1: its number is 16 r + c";
        Watch w = flat(16);
        int[][] corners = {{0, 0, 0}, {0, 15, 15}, {1, 0, 16}, {14, 15, 239}, {15, 0, 240}, {15, 15, 255}};
        for (int k = 0; k < corners.length; k++) {
            is("crew", w.crew(corners[k][0], corners[k][1]), k);
            is("its number", w.place(k), corners[k][2]);
        }
        is("(0, 16) isn't (1, 0)", w.crew(0, 16), NONE);
        is("(1, -1) isn't (0, 15)", w.crew(1, -1), NONE);
        is("(16, -16) isn't (15, 0)", w.crew(16, -16), NONE);
        is("(-1, 16) isn't (0, 0)", w.crew(-1, 16), NONE);
        is("(-1, 31) isn't (0, 15)", w.crew(-1, 31), NONE);
        is("crews", w.count(3), corners.length);
    }

    private static void aNewRowTakesAway(int r, int n) {
        promise = "Terms 1: a new ROW takes away, row(" + r + ", " + n + ")";
        Watch w = flat(5);
        w.tower(0, 0, 10);
        w.sight(0, 0, 1, 1, 1, 0, 0, 0);
        w.remark(4);
        w.begin(0);
        w.crew(3, 3);
        is("send", w.send(), 2);
        yes("out", w.out(0));
        yes("row", w.row(r, n, 0, 1));
        is("towers", w.count(0), 0);
        is("a tower sees no more", w.see(0, 0, 0), NONE);
        is("the log", w.count(1), 0);
        is("a SIGHTING", w.log(0, 0), 6);
        is("a REMARK", w.log(1, 0), 6);
        is("fires", w.count(2), 0);
        is("a fire", w.fire(0, 0), NONE);
        is("its PATCH", w.patch(0, 0), NONE);
        is("crews", w.count(3), 0);
        is("a crew", w.place(0), NONE);
        is("what can be undone", w.count(4), 0);
        no("undo", w.undo());
        is("sent", w.sent(0), NONE);
        is("squares", w.count(5), r == 4 ? 20 + n : 25);
        is("the first tower", w.tower(0, 0, 10), 0);
        is("the first place", w.sight(0, 0, 1, 1, 1, 0, 0, 0), 0);
        is("in no fire", w.log(0, 4), NONE);
        is("the first fire", w.begin(0), 0);
        is("it BURNS", w.fire(0, 0), 0);
        is("it's not AGAIN", w.fire(0, 4), NONE);
        is("the first crew", w.crew(3, 3), 0);
        is("acts", w.count(4), 3);
    }

    private static void aNewRowLeavesTheOthers() {
        promise = "Terms 1: a new ROW leaves the other ROWS";
        Watch w = flat(3);
        w.square(0, 1, 40, 7);
        w.square(1, 1, 50, 8);
        w.row(1, 3, 0, 2);
        w.crew(0, 0);
        is("row 0 stays", w.minutes(0, 0, 1), 7 + 4);
        is("row 1 is new", w.minutes(0, 1, 1), 2 + 2);
        w.row(1, 0, 0, 0);
        w.row(1, 1, 5, 3);
        w.crew(0, 0);
        is("row 0 stays", w.minutes(0, 0, 1), 7 + 4);
        is("row 1 is new again", w.minutes(0, 1, 0), 3);
        is("and shorter", w.minutes(0, 1, 1), NONE);
        is("row 2 stays", w.minutes(0, 2, 2), 3 + 1 + 1 + 1);
    }

    private static void aNewRowClearsTheWholeLog() {
        promise = "Terms 1: a new ROW takes all 60 places and 20 fires away";
        Watch w = flat(3);
        for (int i = 0; i < 60; i++) {
            w.report(0, 0, 1, 1, 1, 0);
        }
        for (int f = 0; f < 20; f++) {
            w.begin(59 - f);
        }
        w.row(0, 3, 0, 1);
        for (int i = 0; i < 60; i++) {
            is("it has nothing", w.log(i, 0), 6);
        }
        for (int f = 0; f < 20; f++) {
            is("no fire", w.fire(f, 0), NONE);
        }
        for (int i = 0; i < 60; i++) {
            is("the first that has nothing", w.report(0, 0, 1, 1, 1, 0), i);
            is("in no fire", w.log(i, 4), NONE);
        }
        is("fires ever", w.begin(59), 0);
    }

    private static void theLastSquareIsAsTheOthers() {
        promise = "Terms 1: the height and MINUTES of the first and the last square";
        Watch w = flat(16);
        yes("the first", w.square(0, 0, 25, 7));
        yes("the last", w.square(15, 15, 35, 8));
        w.crew(0, 1);
        w.crew(15, 14);
        is("to the first", w.minutes(0, 0, 0), 7 + 2);
        is("to the last", w.minutes(1, 15, 15), 8 + 3);
        w = flat(16);
        w.square(0, 0, 30, 1);
        w.square(15, 15, 40, 1);
        w.square(0, 1, 20, 1);
        w.square(15, 14, 20, 1);
        w.tower(0, 2, 10);
        w.tower(15, 13, 0);
        w.tower(0, 0, 0);
        w.tower(15, 15, 0);
        is("from 10 up to 30: in at 15", w.see(0, 0, 0), 0);
        is("from 0 up to 40: in at 10", w.see(1, 15, 15), 0);
        is("from 30 down to 0: out at 7 1/2", w.see(2, 0, 2), 0);
        w.square(0, 1, 14, 1);
        w.square(15, 14, 9, 1);
        is("from 10 up to 30: in at 15", w.see(0, 0, 0), 1);
        is("from 0 up to 40: in at 10", w.see(1, 15, 15), 1);
        is("from 40 down to 0: out at 10", w.see(3, 15, 13), 1);
        w.square(15, 14, 10, 1);
        is("from 40 down to 0: out at 10", w.see(3, 15, 13), 0);
    }

    // SEEN

    private static void seen() {
        theSameSquareIsSeen();
        squaresSideBySideAreSeen();
        aMissingSquareHides();
        atTheLowerHeightItHides();
        heightsByFractions();
        heightsAtTheirBounds();
        theLineGoesThroughTheInside();
        theEndsDoNotHide();
        hiddenIsTheFirst();
    }

    private static void theSameSquareIsSeen() {
        promise = "Terms 1: SEEN is the same one";
        for (int height : new int[] {-1000, 0, 3000}) {
            Watch w = flat(3);
            w.square(1, 1, height, 1);
            w.tower(1, 1, 0);
            w.tower(1, 1, 100);
            is("see", w.see(0, 1, 1), 1);
            is("see", w.see(1, 1, 1), 1);
            is("hidden", w.hidden(0, 1, 1), NONE);
        }
    }

    private static void squaresSideBySideAreSeen() {
        promise = "Terms 1: SEEN is one that no square lies ahead of";
        for (int height : new int[] {-1000, 0, 3000}) {
            Watch w = flat(3);
            w.square(1, 1, height, 1);
            w.tower(1, 1, 0);
            for (int q = 0; q < 9; q++) {
                is("see from " + height, w.see(0, q / 3, q % 3), 1);
                is("hidden from " + height, w.hidden(0, q / 3, q % 3), NONE);
            }
        }
    }

    private static void aMissingSquareHides() {
        promise = "Terms 1: a missing square on the line hides";
        Watch w = new Watch();
        w.row(0, 3, 0, 1);
        w.row(1, 1, 0, 1);
        w.row(2, 3, 0, 1);
        w.tower(0, 1, 100);
        is("over the missing (1, 1)", w.see(0, 2, 1), 0);
        is("its number", w.hidden(0, 2, 1), 17);
        is("(0, 1) to (2, 0): by (1, 1) and (1, 0)", w.hidden(0, 2, 0), 17);
        is("(0, 1) to (2, 2)", w.hidden(0, 2, 2), 17);
        is("(0, 1) to (1, 0) touches it alone", w.see(0, 1, 0), 1);
        w = flat(3);
        w.row(1, 0, 0, 0);
        w.tower(0, 0, 100);
        is("a missing ROW", w.hidden(0, 2, 0), 16);
        is("a missing ROW", w.hidden(0, 2, 2), 17);
        is("(1, 0) and (1, 1) are missing", w.hidden(0, 2, 1), 16);
        is("the missing one itself", w.see(0, 1, 0), NONE);
        is("the missing one itself", w.hidden(0, 1, 0), NONE);
    }

    /** (0, 0) to (0, 2): the line is in (0, 1) from a quarter to three quarters. */
    private static void oneBetween(String line, int eye, int end, int lower) {
        for (int height = lower - 1; height <= lower + 1; height++) {
            Watch w = flat(3);
            w.tower(0, 0, eye);
            w.square(0, 2, end, 1);
            w.square(0, 1, height, 1);
            is(line + ", " + height, w.see(0, 0, 2), height >= lower ? 0 : 1);
            is(line + ", " + height, w.hidden(0, 0, 2), height >= lower ? 1 : NONE);
        }
    }

    private static void atTheLowerHeightItHides() {
        promise = "Terms 1: it hides at or above the lower one of the two heights";
        oneBetween("level", 20, 20, 20);
        oneBetween("level with the ground", 0, 0, 0);
        oneBetween("falling: where it goes out", 20, 0, 5);
        oneBetween("falling below 0", 20, -20, -10);
        oneBetween("rising: where it comes in", 0, 20, 5);
        oneBetween("rising from 100", 100, 300, 150);
    }

    private static void heightsByFractions() {
        promise = "Terms 1: all by fractions";
        // (0, 0) to (0, 3): in (0, 1) from 1/6 to 1/2, in (0, 2) from 1/2 to 5/6.
        int[][] eyeEndAtHeightSeen = {
            {10, 0, 2, 1, 1}, {10, 0, 2, 2, 0}, {10, 0, 1, 4, 1}, {10, 0, 1, 5, 0},
            {0, 10, 1, 1, 1}, {0, 10, 1, 2, 0}, {0, 10, 2, 4, 1}, {0, 10, 2, 5, 0},
            {10, -1, 2, 0, 1}, {10, -1, 2, 1, 0}, {0, -5, 2, -5, 1}, {0, -5, 2, -4, 0}};
        for (int[] row : eyeEndAtHeightSeen) {
            Watch w = new Watch();
            w.row(0, 4, -1000, 1);
            w.square(0, 0, 0, 1);
            w.square(0, 3, row[1], 1);
            w.square(0, row[2], row[3], 1);
            w.tower(0, 0, row[0]);
            is("from " + row[0] + " to " + row[1] + ", " + row[3] + " at " + row[2], w.see(0, 0, 3), row[4]);
        }
    }

    private static void heightsAtTheirBounds() {
        promise = "Terms 1: heights at their bounds, by fractions";
        // 3,100 to -1,000: out of (0, 14) at 14 1/2 of 15, -863 1/3 high; out of (0, 1) at 1 1/2, 2,690 high.
        int[][] falling = {{14, -864, 1}, {14, -863, 0}, {1, 2689, 1}, {1, 2690, 0}};
        for (int[] row : falling) {
            Watch w = new Watch();
            w.row(0, 16, -1000, 1);
            w.square(0, 0, 3000, 1);
            w.square(0, row[0], row[1], 1);
            w.tower(0, 0, 100);
            is("falling, " + row[1] + " at " + row[0], w.see(0, 0, 15), row[2]);
        }
        // -1,000 to 3,000: into (0, 1) at 1/2 of 15, -866 2/3 high; into (0, 14) at 13 1/2, 2,600 high.
        int[][] rising = {{1, -867, 1}, {1, -866, 0}, {14, 2599, 1}, {14, 2600, 0}};
        for (int[] row : rising) {
            Watch w = new Watch();
            w.row(0, 16, -1000, 1);
            w.square(0, 15, 3000, 1);
            w.square(0, row[0], row[1], 1);
            w.tower(0, 0, 0);
            is("rising, " + row[1] + " at " + row[0], w.see(0, 0, 15), row[2]);
        }
    }

    private static void theLineGoesThroughTheInside() {
        promise = "Terms 1: the line goes through some of its inside";
        Watch w = flat(4);
        w.tower(0, 0, 10);
        w.square(0, 1, 3000, 1);
        w.square(1, 0, 3000, 1);
        w.square(1, 2, 3000, 1);
        w.square(2, 1, 3000, 1);
        is("corners are not gone through", w.see(0, 3, 3), 1);
        is("nor of the one beside", w.see(0, 1, 1), 1);
        // (0, 0) to (1, 3): (0, 1), then over a corner, then (1, 2).
        w = flat(4);
        w.tower(0, 0, 10);
        w.square(0, 2, 3000, 1);
        w.square(1, 1, 3000, 1);
        is("a corner at half the way", w.see(0, 1, 3), 1);
        w.square(1, 2, 3000, 1);
        is("(1, 2) is gone through", w.hidden(0, 1, 3), 18);
        w.square(0, 1, 3000, 1);
        is("(0, 1) is gone through", w.hidden(0, 1, 3), 1);
        // (0, 0) to (1, 2): (0, 1) and (1, 1), each by half.
        w = flat(4);
        w.tower(0, 0, 10);
        w.square(1, 0, 3000, 1);
        w.square(0, 2, 3000, 1);
        is("touched by none", w.see(0, 1, 2), 1);
        // (0, 0) to (15, 14) goes through a small bit of (1, 0), and not through (0, 1).
        w = flat(16);
        w.tower(0, 0, 10);
        w.square(0, 1, 3000, 1);
        is("(0, 1) is not gone through", w.hidden(0, 15, 14), NONE);
        w.square(1, 0, 3000, 1);
        is("a small bit of the inside", w.hidden(0, 15, 14), 16);
        w.square(1, 0, 0, 1);
        w.square(15, 13, 3000, 1);
        is("(15, 13) is not gone through", w.hidden(0, 15, 14), NONE);
        w.square(14, 14, 3000, 1);
        is("the last of all on the line", w.hidden(0, 15, 14), 16 * 14 + 14);
    }

    private static void theEndsDoNotHide() {
        promise = "Terms 1: no square, but these two, hides";
        Watch w = flat(3);
        w.square(0, 2, 3000, 1);
        w.tower(0, 0, 10);
        is("the other one is higher than the eye", w.see(0, 0, 2), 1);
        w = flat(3);
        w.square(0, 0, 3000, 1);
        w.tower(0, 0, 0);
        is("the eye is on its own square", w.see(0, 0, 2), 1);
    }

    private static void hiddenIsTheFirst() {
        promise = "Terms 1, promise 6: the first that is missing or hides";
        Watch w = flat(16);
        w.tower(15, 15, 1);
        w.square(7, 7, 3000, 1);
        w.square(3, 3, 3000, 1);
        is("from the tower on, not by numbers", w.hidden(0, 0, 0), 16 * 7 + 7);
        is("up to it all is seen", w.hidden(0, 7, 7), NONE);
        is("behind it nothing", w.hidden(0, 6, 6), 16 * 7 + 7);
        w = flat(3);
        w.row(1, 2, 0, 1);
        w.tower(2, 2, 0);
        is("missing ahead of one that hides", w.hidden(0, 0, 2), 18);
        is("(2, 2) to (0, 1): (1, 2), then (1, 1)", w.hidden(0, 0, 1), 18);
        is("(2, 2) to (0, 0): (1, 1) is level", w.hidden(0, 0, 0), 17);
    }

    private static void towers() {
        promise = "Terms 1: TOWERS, up to 8, a height 0 to 100";
        Watch w = flat(3);
        for (int t = 0; t < 8; t++) {
            is("tower", w.tower(0, 0, t % 2 == 0 ? 0 : 100), t);
        }
        is("a ninth", w.tower(0, 0, 0), NONE);
        is("towers", w.count(0), 8);
        w.square(0, 2, 100, 1);
        w.square(0, 1, 99, 1);
        is("100 above sees over 99", w.see(7, 0, 2), 1);
        is("0 above doesn't", w.see(6, 0, 2), 0);
        w.square(0, 1, 100, 1);
        is("100 above doesn't see over 100", w.see(7, 0, 2), 0);
        bearingsOfTheFirstAndTheLastTower();
    }

    private static void bearingsOfTheFirstAndTheLastTower() {
        promise = "Terms 1: what the first and the last tower see changes with the wood";
        Watch w = flat(3);
        for (int t = 0; t < 8; t++) {
            w.tower(0, 0, 10);
        }
        for (int height : new int[] {0, 500, 0}) {
            yes("square", w.square(0, 1, height, 1));
            is("(0, 2) and (1, 2) are blind", w.blinds(), height == 0 ? 0 : 2);
            for (int t = 0; t < 8; t++) {
                is("tower " + t, w.log(w.sight(0, t, 1, 0, 1, 0, 0, 0), 3), height == 0 ? 2 : 1);
            }
            for (int t = 0; t < 8; t++) {
                w.clear(t);
            }
        }
        w.row(0, 3, 0, 1);
        w.tower(2, 2, 10);
        is("a new tower in its place", w.log(w.sight(0, 0, 1, 0, -1, 0, 0, 0), 3), 2);
    }

    // ==== 2. THE LOG

    private static void theLog() {
        sixtyPlaces();
        minutesAndDirectionsAtTheirBounds();
        kindsOfSightings();
    }

    private static void sixtyPlaces() {
        promise = "Terms 2: up to 60 places";
        Watch w = flat(3);
        for (int i = 0; i < 60; i++) {
            is("it has nothing", w.log(i, 0), 6);
            is("a place", i % 2 == 0 ? w.remark(i) : w.report(0, 0, i, 1, 1, 0), i);
        }
        is("log(60, 0)", w.log(60, 0), NONE);
        is("log(-1, 0)", w.log(-1, 0), NONE);
        is("a 61st REMARK", w.remark(1), NONE);
        is("a 61st REPORT", w.report(0, 0, 1, 1, 1, 0), NONE);
        is("places", w.count(1), 60);
        yes("clear", w.clear(59));
        is("59 are taken", w.remark(5), 59);
        yes("clear", w.clear(0));
        is("the first again", w.report(0, 0, 1, 1, 1, 0), 0);
        is("a 61st", w.remark(1), NONE);
    }

    private static void minutesAndDirectionsAtTheirBounds() {
        promise = "Terms 2: MINUTE, DIRECTION, SIDE at their bounds";
        Watch w = flat(5);
        w.tower(2, 2, 50);
        is("minute 0", w.log(w.sight(0, 0, 0, 1, 0, 0, 0, 0), 1), 0);
        is("minute 9,999", w.log(w.report(2, 2, 9999, 1, 0, 0), 1), 9999);
        squaresAre(w, w.sight(3, 0, 1, 50, 50, 0, 0, 0), 51, 68);
        squaresAre(w, w.sight(3, 0, 1, -50, -50, 0, 0, 0), 0, 17);
        squaresAre(w, w.sight(0, 0, 1, -50, 50, 0, 0, 0), 4, 19);
        squaresAre(w, w.report(2, 2, 1, 50, -50, 0), 49, 64);
        squaresAre(w, w.report(2, 2, 1, 50, 25, 0), 67);
        squaresAre(w, w.report(2, 2, 1, 50, 49, 2), 51, 68);
        squaresAre(w, w.report(2, 2, 1, 50, 49, 1));
        squaresAre(w, w.report(2, 2, 1, 0, 1, 0), 35, 36);
        squaresAre(w, w.report(2, 2, 1, 0, -50, 0), 32, 33);
        squaresAre(w, w.report(2, 2, 1, -1, 0, 0), 2, 18);
    }

    private static void kindsOfSightings() {
        promise = "Terms 2: kinds";
        Watch w = flat(5);
        w.tower(0, 0, 50);
        for (int kind = 0; kind < 4; kind++) {
            is("kind", w.log(w.sight(kind, 0, 1, 1, 1, 0, 3, 0), 0), kind);
        }
        is("REPORT", w.log(w.report(0, 0, 1, 1, 1, 0), 0), 4);
        is("REMARK", w.log(w.remark(0), 0), 5);
        is("nothing", w.log(6, 0), 6);
        is("kind 4 isn't sight()'s", w.sight(4, 0, 1, 1, 1, 0, 3, 0), NONE);
        is("kind -1", w.sight(-1, 0, 1, 1, 1, 0, 3, 0), NONE);
        squaresAre(w, 0, 17, 34, 51, 68);
        squaresAre(w, 1, 17, 34);
        squaresAre(w, 2, 17, 34);
        squaresAre(w, 3, 17, 34, 51, 68);
        squaresAre(w, 4, 17, 34, 51, 68);
    }

    private static void squaresOfSightings() {
        onlyThoseThatAreThere();
        neverTheEyesOwn();
        aboveNothing();
        atMostSide();
        atMostTheReachSquared();
        seenIsNotAskedOfAll();
        allAtOnce();
    }

    private static void onlyThoseThatAreThere() {
        promise = "Terms 2: SQUARES are those there";
        Watch w = new Watch();
        w.row(0, 4, 0, 1);
        w.row(1, 2, 0, 1);
        w.row(3, 3, 0, 1);
        squaresAre(w, w.report(0, 2, 1, 1, 0, 400), 16, 17, 48, 49, 50);
        squaresAre(w, w.report(0, 3, 1, 0, 1, 400));
        squaresAre(w, w.report(0, 0, 1, -1, 0, 400));
        squaresAre(w, w.report(0, 0, 1, 0, -1, 400));
        squaresAre(w, w.report(3, 2, 1, 1, 0, 400));
    }

    private static void neverTheEyesOwn() {
        promise = "Terms 2: but the eye's own";
        Watch w = new Watch();
        w.row(0, 1, 0, 1);
        w.tower(0, 0, 100);
        for (int kind = 0; kind < 4; kind++) {
            squaresAre(w, w.sight(kind, 0, 1, 1, 1, 400, 40, 0));
        }
        squaresAre(w, w.report(0, 0, 1, 1, 1, 400));
    }

    private static void aboveNothing() {
        promise = "Terms 2: v * DIRECTION is above 0";
        Watch w = flat(3);
        w.tower(1, 1, 50);
        squaresAre(w, w.sight(0, 0, 1, 1, 0, 400, 0, 0), 32, 33, 34);
        squaresAre(w, w.sight(0, 0, 1, 0, 1, 400, 0, 0), 2, 18, 34);
        squaresAre(w, w.sight(3, 0, 1, 1, 1, 400, 0, 0), 18, 33, 34);
        squaresAre(w, w.sight(3, 0, 1, -1, 1, 400, 0, 0), 1, 2, 18);
        squaresAre(w, w.report(1, 1, 1, 0, -50, 400), 0, 16, 32);
    }

    private static void atMostSide() {
        promise = "Terms 2: at most SIDE times that";
        Watch w = flat(8);
        // (1, 4) lies by 4 aside: 400 to 1; (1, 5) by 5.
        squaresAre(w, w.report(6, 0, 1, 1, 0, 400), 112, 113, 114, 115, 116);
        squaresAre(w, w.report(6, 0, 1, 1, 0, 399), 112, 113, 114, 115);
        squaresAre(w, w.report(6, 0, 1, 1, 0, 100), 112, 113);
        squaresAre(w, w.report(6, 0, 1, 1, 0, 99), 112);
        squaresAre(w, w.report(6, 0, 1, 1, 0, 0), 112);
        // (3, 1) by (2, 1) is 3 * 1 - 1 * 2 aside and 7 along: 100 is above 14 * 7, not above 15 * 7.
        squaresAre(w, w.report(4, 6, 1, 2, 1, 14), 103);
        squaresAre(w, w.report(4, 6, 1, 2, 1, 15), 103, 119);
        // The other side counts likewise: 4 aside to the left.
        squaresAre(w, w.report(6, 7, 1, 1, 0, 400), 115, 116, 117, 118, 119);
        squaresAre(w, w.report(6, 7, 1, 1, 0, 399), 116, 117, 118, 119);
    }

    private static void atMostTheReachSquared() {
        promise = "Terms 2: v * v is at most the REACH squared";
        Watch w = flat(16);
        w.tower(0, 0, 100);
        squaresAre(w, w.sight(1, 0, 1, 3, 4, 0, 5, 0), 52);
        squaresAre(w, w.sight(1, 0, 1, 3, 4, 0, 4, 0));
        squaresAre(w, w.sight(1, 0, 1, 0, 1, 0, 1, 0), 1);
        squaresAre(w, w.sight(1, 0, 1, 1, 1, 0, 1, 0));
        squaresAre(w, w.sight(1, 0, 1, 0, 1, 0, 3, 0), 1, 2, 3);
        is("15 * 15 twice is 450, above 21 * 21", w.log(w.sight(1, 0, 1, 1, 1, 0, 21, 0), 3), 14);
        is("and below 22 * 22", w.log(w.sight(1, 0, 1, 1, 1, 0, 22, 0), 3), 15);
        is("40", w.log(w.sight(1, 0, 1, 1, 1, 0, 40, 0), 3), 15);
        is("40 of FAINT", w.log(w.sight(2, 0, 1, 1, 1, 0, 40, 0), 3), 15);
        w.row(15, 16, 0, 1);
        w.tower(15, 15, 100);
        w.tower(9, 4, 100);
        squaresAre(w, w.sight(1, 0, 1, -3, -4, 0, 5, 0), 16 * 12 + 11);
        squaresAre(w, w.sight(1, 0, 1, -3, -4, 0, 4, 0));
        squaresAre(w, w.sight(1, 1, 1, -3, 4, 0, 5, 0), 16 * 6 + 8);
        squaresAre(w, w.sight(1, 1, 1, 3, -4, 0, 4, 0));
        squaresAre(w, w.sight(2, 1, 1, 3, -4, 0, 5, 0), 16 * 12);
        is("not asked of BEARING", w.log(w.sight(0, 0, 1, -1, -1, 0, 1, 0), 3), 15);
        is("not asked of GLOW", w.log(w.sight(3, 0, 1, -1, -1, 0, 1, 0), 3), 15);
    }

    private static void seenIsNotAskedOfAll() {
        promise = "Terms 2: SEEN, not asked of GLOW and REPORT";
        Watch w = flat(5);
        w.tower(0, 0, 0);
        squaresAre(w, w.sight(0, 0, 1, 0, 1, 0, 0, 0), 1);
        squaresAre(w, w.sight(1, 0, 1, 0, 1, 0, 40, 0), 1);
        squaresAre(w, w.sight(2, 0, 1, 0, 1, 0, 40, 0), 1);
        squaresAre(w, w.sight(3, 0, 1, 0, 1, 0, 40, 0), 1, 2, 3, 4);
        squaresAre(w, w.report(0, 0, 1, 0, 1, 0), 1, 2, 3, 4);
    }

    private static void allAtOnce() {
        promise = "Terms 2: SQUARES of the whole wood";
        Watch w = flat(16);
        w.report(0, 0, 1, 1, 1, 400);
        is("all but the eye's own", w.log(0, 3), 255);
        is("the first", w.squares(0, 0), 1);
        is("the 64th", w.squares(0, 63), 64);
        is("the 128th", w.squares(0, 127), 128);
        is("the last", w.squares(0, 254), 255);
        is("none behind", w.squares(0, 255), NONE);
        w.report(15, 15, 1, -1, -1, 400);
        is("all but the eye's own", w.log(1, 3), 255);
        is("the first", w.squares(1, 0), 0);
        is("the last", w.squares(1, 254), 254);
        w.begin(0);
        w.join(1, 0);
        is("a PATCH of both", w.fire(0, 2), 254);
        is("the last", w.patch(0, 253), 254);
        is("none behind", w.patch(0, 254), NONE);
        is("the MIDDLE: of (7, 7), (7, 8), (8, 7), (8, 8) the least", w.fire(0, 3), 16 * 7 + 7);
    }

    private static int left(int reach, int haze) {
        Watch w = flat(1);
        w.tower(0, 0, 0);
        return w.log(w.sight(2, 0, 0, 1, 0, 0, reach, haze), 5);
    }

    private static void haze() {
        promise = "Terms 2: HAZE * 100 as floats, cut";
        is("0", left(40, 0), 40);
        is("minus 0", left(40, MIN), 40);
        is("the least above 0", left(40, 1), 40);
        is("just below a hundredth", left(40, Float.floatToIntBits(0.01f) - 1), 40);
        is("1", left(40, Float.floatToIntBits(1f)), 0);
        is("1, of a REACH of 1", left(1, Float.floatToIntBits(1f)), 0);
        is("just below 1", left(40, Float.floatToIntBits(1f) - 1), 40 - 40 * 99 / 100);
        is("0.29: 29 as floats, 28 as doubles", left(7, Float.floatToIntBits(0.29f)), 5);
        is("0.53: 52 and not 53", left(17, Float.floatToIntBits(0.53f)), 9);
        is("next to 0.53: 53", left(17, Float.floatToIntBits(0.53f) + 1), 8);
        promise = "Terms 2: REACH * h / 100, cut";
        is("3 less 1 1/2", left(3, Float.floatToIntBits(0.5f)), 2);
        is("1 less 99 / 100", left(1, Float.floatToIntBits(0.99f)), 1);
        is("2 less 99 / 50", left(2, Float.floatToIntBits(0.99f)), 1);
        is("40 less 10", left(40, Float.floatToIntBits(0.25f)), 30);
        is("4 less 1", left(4, Float.floatToIntBits(0.25f)), 3);
        is("3 less 3 / 4", left(3, Float.floatToIntBits(0.25f)), 3);
        promise = "Terms 2: the REACH as haze left it bounds the SQUARES";
        Watch w = flat(8);
        w.tower(0, 0, 50);
        squaresAre(w, w.sight(2, 0, 1, 0, 1, 0, 4, Float.floatToIntBits(0.5f)), 1, 2);
        squaresAre(w, w.sight(2, 0, 1, 0, 1, 0, 4, Float.floatToIntBits(0.49f)), 1, 2, 3);
        squaresAre(w, w.sight(2, 0, 1, 0, 1, 0, 40, Float.floatToIntBits(1f)));
    }

    // ==== 3. FIRES

    private static void fires() {
        twentyEver();
        fits();
        fitsByTheFirstAndTheLast();
        fitsByOneSquare();
        again();
        middles();
    }

    private static void twentyEver() {
        promise = "Terms 3: FIRES, up to 20 ever";
        Watch w = flat(3);
        w.report(0, 0, 1, 1, 1, 0);
        for (int f = 0; f < 20; f += 2) {
            is("a fire", w.begin(0), f);
            yes("it's GONE then", w.apart(0));
            is("another one", w.begin(w.report(0, 0, 1, 1, 1, 0)), f + 1);
            yes("it's OUT then", w.out(f + 1));
        }
        is("none BURNS, but there were 20", w.begin(0), NONE);
        is("ever", w.count(2), 20);
    }

    private static void fits() {
        promise = "Terms 3: FITS";
        Watch w = flat(4);
        w.tower(0, 0, 50);
        w.tower(0, 0, 50);
        w.sight(0, 0, 10, 1, 1, 0, 0, 0);
        w.sight(0, 0, 9, 1, 1, 0, 0, 0);
        w.sight(0, 0, 11, 1, 1, 0, 0, 0);
        w.sight(0, 1, 10, 1, 1, 0, 0, 0);
        w.sight(3, 0, 10, 1, 1, 0, 0, 0);
        w.report(0, 0, 10, 1, 1, 0);
        w.report(3, 0, 10, 0, 1, 0);
        w.report(3, 0, 10, -1, 0, 0);
        is("no fire is there", w.log(1, 6), 0);
        w.begin(0);
        is("it is in it", w.log(0, 6), 0);
        is("a MINUTE ahead", w.log(1, 6), 1);
        is("a MINUTE behind", w.log(2, 6), 1);
        is("another tower on the same square", w.log(3, 6), 1);
        is("the same tower and MINUTE", w.log(4, 6), 0);
        is("a caller is no tower", w.log(5, 6), 1);
        is("one square is not empty", w.log(6, 6), 1);
        is("no square is empty", w.log(7, 6), 0);
        yes("join", w.join(5, 0));
        w.report(0, 0, 10, 1, 1, 0);
        is("two callers of one square and MINUTE", w.log(8, 6), 1);
        yes("the tower's leaves", w.apart(0));
        is("so the same tower and MINUTE fits", w.log(4, 6), 1);
        yes("join", w.join(4, 0));
        is("and the first no more", w.log(0, 6), 0);
    }

    private static void fitsByTheFirstAndTheLast() {
        for (int last : new int[] {0, 59}) {
            promise = "Terms 3: FITS, the SIGHTING at place " + last;
            Watch w = flat(3);
            w.tower(0, 0, 10);
            for (int i = 0; i < 60; i++) {
                w.sight(0, 0, i == 0 || i == 59 ? 1000 : i, 1, 1, 0, 0, 0);
            }
            w.begin(last);
            is("the same tower and MINUTE", w.log(59 - last, 6), 0);
            no("join", w.join(59 - last, 0));
            is("another MINUTE", w.log(30, 6), 1);
        }
        promise = "Terms 3: FITS, the first and the last fire";
        Watch w = flat(3);
        w.tower(0, 0, 10);
        for (int i = 0; i < 21; i++) {
            w.sight(0, 0, i < 20 ? i : 0, 1, 1, 0, 0, 0);
        }
        for (int f = 0; f < 20; f++) {
            w.begin(f);
        }
        is("all but the first", w.log(20, 6), 19);
        no("the first", w.join(20, 0));
        yes("the last", w.join(20, 19));
        w.apart(20);
        w.clear(20);
        w.sight(0, 0, 19, 1, 1, 0, 0, 0);
        is("all but the last", w.log(20, 6), 19);
        no("the last", w.join(20, 19));
        for (int f = 0; f < 19; f++) {
            w.out(f);
        }
        is("none", w.log(20, 6), 0);
        w.report(0, 0, 1, 1, 1, 0);
        is("the last alone", w.log(21, 6), 1);
        is("office", w.office(), 1);
        is("it joins to the last", w.log(21, 4), 19);
    }

    /** A ROW and a column have one square in common, wherever in the wood it lies. */
    private static void fitsByOneSquare() {
        promise = "Terms 3: FITS, by one square";
        for (int r = 0; r < 16; r += 3) {
            for (int c = 1; c < 16; c += 7) {
                Watch w = flat(16);
                w.report(r, 0, 1, 0, 1, 0);
                w.report(r == 0 ? 15 : r - 1, c, 1, r == 0 ? -1 : 1, 0, 0);
                w.begin(0);
                is("it FITS", w.log(1, 6), 1);
                yes("join", w.join(1, 0));
                patchIs(w, 0, 16 * r + c);
                is("its MIDDLE", w.fire(0, 3), 16 * r + c);
                w.out(0);
                w.report(r, c == 1 ? 15 : c - 1, 1, 0, c == 1 ? -1 : 1, 0);
                w.begin(2);
                is("AGAIN", w.fire(1, 4), 0);
            }
        }
    }

    private static void again() {
        promise = "Terms 3: AGAIN";
        Watch w = flat(5);
        w.report(0, 0, 1, 0, 1, 0);
        w.report(0, 2, 1, 0, 1, 0);
        w.report(4, 3, 1, -1, 0, 0);
        w.report(4, 1, 1, -1, 0, 0);
        w.report(4, 2, 1, -1, 0, 0);
        w.begin(0);
        w.begin(1);
        is("none is OUT", w.begin(2), 2);
        is("none is OUT", w.fire(2, 4), NONE);
        w.out(1);
        w.out(0);
        is("AGAIN isn't told later", w.fire(2, 4), NONE);
        w.begin(3);
        is("(0, 1) is of the first alone", w.fire(3, 4), 0);
        w.begin(4);
        is("(0, 2) too", w.fire(4, 4), 0);
        w.report(4, 3, 1, -1, 0, 0);
        w.begin(5);
        is("(0, 3) is of both: the latest by number, not the one that went out last", w.fire(5, 4), 1);
        w.report(4, 0, 1, 0, 1, 0);
        w.begin(6);
        is("none of a PATCH", w.fire(6, 4), NONE);
    }

    private static void middles() {
        promise = "Terms 3: MIDDLE";
        Watch w = flat(5);
        w.report(0, 3, 1, 0, 1, 0);
        w.begin(0);
        is("of one square", w.fire(0, 3), 4);
        w.report(0, 2, 1, 0, 1, 0);
        w.begin(1);
        is("of two the least number", w.fire(1, 3), 3);
        w.report(0, 1, 1, 0, 1, 0);
        w.begin(2);
        is("of three the one between", w.fire(2, 3), 3);
        w.report(2, 0, 1, 1, 0, 0);
        w.begin(3);
        is("of two in a column", w.fire(3, 3), 48);
        w.apart(3);
        is("of GONE there is none", w.fire(3, 3), NONE);
        // Rows and columns count alike: (1, 0), (2, 0), (0, 1), (0, 2), (1, 1) and their like.
        w.report(0, 0, 1, 1, 1, 400);
        w.begin(4);
        is("all but (0, 0)", w.fire(4, 2), 24);
        is("(2, 2)", w.fire(4, 3), 34);
        promise = "Terms 3: MIDDLE, with the first and the last square";
        w = flat(16);
        w.report(0, 4, 1, 0, -1, 0);
        w.report(15, 12, 1, 0, 1, 0);
        w.report(0, 1, 1, 0, -1, 0);
        w.report(15, 14, 1, 0, 1, 0);
        for (int i = 0; i < 4; i++) {
            w.begin(i);
        }
        is("0 to 3", w.fire(0, 3), 1);
        is("253 to 255", w.fire(1, 3), 254);
        is("0", w.fire(2, 3), 0);
        is("255", w.fire(3, 3), 255);
        is("asked again", w.fire(0, 3), 1);
    }

    // ==== 4. CREWS

    private static void crews() {
        stepsGoBesideAlone();
        aTenthIsCut();
        ofSeveralWaysTheLeastNumbers();
        theLongestWay();
        sendingAtItsBounds();
        sendingOfSeveral();
        sendingOfEight();
    }

    private static void stepsGoBesideAlone() {
        promise = "Terms 4: a step goes to a square beside";
        Watch w = flat(16);
        w.crew(0, 15);
        is("a ROW's end isn't beside the next one's beginning", w.minutes(0, 1, 0), 16);
        is("aslant takes two", w.minutes(0, 1, 14), 2);
        w.crew(15, 0);
        is("the last ROW isn't beside the first", w.minutes(1, 0, 0), 15);
        w = new Watch();
        w.row(0, 2, 0, 1);
        w.row(1, 1, 0, 1);
        w.row(3, 1, 0, 1);
        w.crew(0, 1);
        is("round the missing one", w.minutes(0, 1, 0), 2);
        is("a missing ROW is no step", w.minutes(0, 3, 0), NONE);
        no("a missing ROW is no step", w.move(0, 3, 0));
        is("a missing ROW is no step", w.way(0, 3, 0, 0), NONE);
    }

    private static void aTenthIsCut() {
        promise = "Terms 4: a tenth, cut, of how much higher it is";
        int[][] highers = {{0, 0}, {1, 0}, {9, 0}, {10, 1}, {11, 1}, {19, 1}, {20, 2}, {3000, 300}};
        for (int[] row : highers) {
            Watch w = new Watch();
            w.row(0, 2, 0, 3);
            w.square(0, 1, row[0], 4);
            w.crew(0, 0);
            w.crew(0, 1);
            is("higher by " + row[0], w.minutes(0, 0, 1), 4 + row[1]);
            is("lower by " + row[0], w.minutes(1, 0, 0), 3);
        }
        Watch w = new Watch();
        w.row(0, 3, -1000, 1);
        w.square(0, 1, -995, 1);
        w.square(0, 2, -990, 1);
        w.crew(0, 0);
        is("each step is cut on its own", w.minutes(0, 0, 2), 2);
    }

    private static void ofSeveralWaysTheLeastNumbers() {
        promise = "Terms 4: of all such ways the least number where they part";
        Watch w = flat(3);
        w.crew(1, 1);
        int[][] dues = {{0, 0, 1, 0}, {0, 2, 1, 2}, {2, 0, 16, 32}, {2, 2, 18, 34}};
        for (int[] due : dues) {
            is("own", w.way(0, due[0], due[1], 0), 17);
            is("first", w.way(0, due[0], due[1], 1), due[2]);
            is("last", w.way(0, due[0], due[1], 2), due[3]);
            is("none behind", w.way(0, due[0], due[1], 3), NONE);
        }
        // One minute more turns it aside.
        w = flat(3);
        w.square(0, 1, 0, 2);
        w.crew(1, 1);
        is("left now", w.way(0, 0, 0, 1), 16);
        is("right now", w.way(0, 0, 2, 1), 18);
        is("two", w.minutes(0, 0, 0), 2);
        // The longer way of the same sum goes to the lesser number.
        w = flat(3);
        w.square(1, 1, 0, 3);
        w.crew(1, 0);
        is("4 by three or by four", w.minutes(0, 1, 2), 4);
        int[] round = {16, 0, 1, 2, 18};
        for (int i = 0; i < round.length; i++) {
            is("over the top " + i, w.way(0, 1, 2, i), round[i]);
        }
        is("none behind", w.way(0, 1, 2, 5), NONE);
    }

    /** Walls of 3,000 on the odd rows, open at one end each, so that the way goes through all of the even ones. */
    private static void theLongestWay() {
        promise = "Terms 4: the longest WAY";
        Watch w = new Watch();
        for (int r = 0; r < 15; r++) {
            w.row(r, 16, r % 2 == 0 ? -1000 : 3000, r % 2 == 0 ? 1 : 60);
        }
        for (int r = 1; r < 15; r += 2) {
            w.square(r, r % 4 == 1 ? 15 : 0, -1000, 1);
        }
        w.crew(0, 0);
        int steps = 8 * 15 + 7 * 2;
        is("minutes", w.minutes(0, 14, 0), steps);
        is("its own", w.way(0, 14, 0, 0), 0);
        is("the first ROW's end", w.way(0, 14, 0, 15), 15);
        is("through the gap", w.way(0, 14, 0, 16), 31);
        is("the third ROW's end", w.way(0, 14, 0, 17 + 15), 32);
        is("the last step", w.way(0, 14, 0, steps), 16 * 14);
        is("none behind", w.way(0, 14, 0, steps + 1), NONE);
        yes("move", w.move(0, 14, 0));
        is("the way back is as long", w.minutes(0, 0, 0), steps);
    }

    private static void sendingAtItsBounds() {
        promise = "Terms 4: SENDING, a crew of its own to each fire";
        Watch w = flat(4);
        w.report(0, 0, 1, 1, 1, 0);
        w.report(0, 0, 1, 1, 1, 0);
        is("no fire, no crew", w.send(), NONE);
        w.crew(2, 2);
        is("no fire", w.send(), NONE);
        w.begin(0);
        is("as many crews as fires, on the MIDDLE", w.send(), 0);
        is("sent", w.sent(0), 0);
        w.begin(1);
        is("a fire more than crews", w.send(), NONE);
        w.crew(3, 3);
        is("as many again", w.send(), 2);
        is("the row with the least first", w.sent(0), 0);
        is("then the other", w.sent(1), 1);
    }

    private static void sendingOfSeveral() {
        promise = "Terms 4: SENDING, of several the least row of crews";
        Watch w = flat(5);
        w.report(0, 0, 1, 0, 1, 0);
        w.report(1, 0, 1, 0, 1, 0);
        w.begin(0);
        w.begin(1);
        for (int k = 0; k < 8; k++) {
            w.crew(4, 2);
        }
        // The MIDDLES are (0, 2) and (1, 2).
        is("all alike", w.send(), 4 + 3);
        is("the first fire's the least", w.sent(0), 0);
        is("then the next one's", w.sent(1), 1);
        w.move(0, 4, 4);
        is("crew 0 is farther", w.send(), 4 + 3);
        is("the least of the near ones", w.sent(0), 1);
        is("the next", w.sent(1), 2);
        w.move(0, 0, 2);
        w.move(1, 0, 2);
        is("both near ones", w.send(), 0 + 1);
        is("the least row", w.sent(0), 0);
        is("the least row", w.sent(1), 1);
        w.out(0);
        is("one fire", w.send(), 1);
        is("the least crew of two", w.sent(1), 0);
        is("OUT has none any more", w.sent(0), NONE);
    }

    /** Fire f is on (f, 0) alone; crew k stands on (7 - k, 1). */
    private static void sendingOfEight() {
        promise = "Terms 4: SENDING of eight";
        Watch w = flat(8);
        for (int f = 0; f < 8; f++) {
            w.report(f, 1, 1, 0, -1, 0);
            w.begin(f);
            is("a fire more than crews", w.send(), NONE);
            w.crew(7 - f, 1);
        }
        is("a step each", w.send(), 8);
        for (int f = 0; f < 8; f++) {
            is("the crew beside", w.sent(f), 7 - f);
        }
        w.report(0, 1, 1, 0, -1, 0);
        w.begin(8);
        is("nine fires", w.send(), NONE);
        is("what was told stays", w.sent(7), 0);
        for (int f = 0; f < 7; f++) {
            w.out(f);
        }
        is("fires 7 and 8", w.send(), 2);
        is("the first crew", w.sent(7), 0);
        is("the last crew", w.sent(8), 7);
    }

    // ==== 5. UNDOING

    private static void undoing() {
        everyActCounts();
        whatDidNothingIsNoAct();
        theLatestFifty();
        fiftyBehindAMark();
        eachOfFiftyAsItWas();
        upToTheLastCall();
    }

    private static void everyActCounts() {
        promise = "Terms 5: acts";
        Watch w = flat(5);
        w.tower(0, 0, 50);
        w.sight(0, 0, 1, 1, 1, 0, 0, 0);
        is("a SIGHTING", w.count(4), 1);
        w.report(0, 0, 2, 1, 1, 0);
        is("a REPORT", w.count(4), 2);
        w.remark(3);
        is("a REMARK", w.count(4), 3);
        w.clear(2);
        is("cleared", w.count(4), 4);
        w.begin(0);
        is("begin", w.count(4), 5);
        w.join(1, 0);
        is("join", w.count(4), 6);
        w.apart(1);
        is("apart", w.count(4), 7);
        w.office();
        is("office joins one", w.count(4), 8);
        w.out(0);
        is("out", w.count(4), 9);
        w.crew(0, 0);
        is("crew", w.count(4), 10);
        w.move(0, 1, 1);
        is("move", w.count(4), 11);
        for (int n = 10; n >= 0; n--) {
            yes("undo", w.undo());
            is("acts", w.count(4), n);
        }
        no("undo", w.undo());
        is("acts", w.count(4), 0);
    }

    private static void whatDidNothingIsNoAct() {
        promise = "Terms 5: what did nothing is no act";
        Watch w = flat(3);
        w.square(0, 0, 1, 1);
        w.tower(0, 0, 5);
        is("row, square, tower", w.count(4), 0);
        w.remark(1);
        w.report(0, 0, 1, 1, 1, 0);
        w.begin(1);
        w.crew(2, 2);
        int acts = w.count(4);
        w.claim(1, 3);
        w.check();
        w.send();
        w.sight(0, 9, 1, 1, 1, 0, 0, 0);
        w.report(9, 9, 1, 1, 1, 0);
        w.clear(1);
        w.clear(2);
        w.join(1, 0);
        w.begin(0);
        w.begin(1);
        w.apart(0);
        w.office();
        w.out(1);
        w.crew(9, 9);
        w.move(0, 9, 9);
        w.move(1, 0, 0);
        w.row(16, 1, 0, 1);
        w.square(0, 0, 0, 1);
        w.tower(0, 0, 1);
        is("acts", w.count(4), acts);
    }

    private static void theLatestFifty() {
        promise = "Terms 5: the latest 50 can be undone";
        for (int acts = 49; acts <= 51; acts++) {
            Watch w = flat(3);
            for (int n = 0; n < acts; n++) {
                w.remark(n);
            }
            int kept = Math.min(acts, 50);
            is("acts", w.count(4), kept);
            for (int n = 0; n < kept; n++) {
                yes("undo", w.undo());
            }
            no("no more", w.undo());
            is("what stays", w.count(1), acts - kept);
            is("the first act", w.log(0, 0), acts > 50 ? 5 : 6);
            is("a new one", w.remark(1), acts - kept);
            yes("can be undone", w.undo());
            no("alone", w.undo());
        }
    }

    /** Each kind of act, once as the 50th from behind, which can be undone, once as the 51st, which can't. */
    private static void fiftyBehindAMark() {
        for (int kind = 0; kind < 7; kind++) {
            for (int behind = 49; behind <= 50; behind++) {
                promise = "Terms 5: the latest 50, act " + kind + " with " + behind + " behind it";
                Watch w = flat(4);
                w.report(0, 0, 1, 1, 1, 0);
                w.report(0, 0, 1, 1, 1, 0);
                w.begin(0);
                w.crew(0, 0);
                act(w, kind);
                for (int n = 0; n < behind; n++) {
                    w.move(0, 1 + n % 2, 0);
                }
                int acts = 0;
                while (acts < 60 && w.undo()) {
                    acts++;
                }
                is("undone", acts, 50);
                is("the act is undone", isDone(w, kind) ? 0 : 1, behind == 49 ? 1 : 0);
            }
        }
    }

    private static void act(Watch w, int kind) {
        switch (kind) {
            case 0 -> w.remark(5);
            case 1 -> w.clear(1);
            case 2 -> w.join(1, 0);
            case 3 -> w.begin(1);
            case 4 -> w.apart(0);
            case 5 -> w.out(0);
            default -> w.crew(3, 3);
        }
    }

    private static boolean isDone(Watch w, int kind) {
        return switch (kind) {
            case 0 -> w.log(2, 0) == 5;
            case 1 -> w.log(1, 0) == 6;
            case 2 -> w.log(1, 4) == 0;
            case 3 -> w.count(2) == 2;
            case 4 -> w.fire(0, 0) == 2;
            case 5 -> w.fire(0, 0) == 1;
            default -> w.count(3) == 2;
        };
    }

    /** Whatever the number of acts ahead, each one that is undone leads to what was ahead of it. */
    private static void eachOfFiftyAsItWas() {
        promise = "Terms 5: then all is as ahead of it, moves";
        Watch w = flat(8);
        w.crew(0, 0);
        for (int n = 1; n < 64; n++) {
            yes("move", w.move(0, n / 8, n % 8));
        }
        for (int n = 62; n >= 13; n--) {
            yes("undo", w.undo());
            is("place", w.place(0), 16 * (n / 8) + n % 8);
        }
        no("undo", w.undo());
        promise = "Terms 5: then all is as ahead of it, what was cleared";
        w = flat(2);
        for (int n = 0; n < 60; n++) {
            w.remark(1000 + n);
        }
        for (int n = 0; n < 60; n++) {
            yes("clear", w.clear(n));
        }
        for (int n = 59; n >= 10; n--) {
            yes("undo", w.undo());
            is("its number", w.log(n, 1), 1000 + n);
        }
        no("undo", w.undo());
        is("places", w.count(1), 50);
        promise = "Terms 5: then all is as ahead of it, fires";
        w = flat(3);
        w.report(0, 0, 1, 1, 1, 0);
        w.begin(0);
        for (int n = 1; n < 58; n++) {
            w.report(0, 0, 1, 1, 1, 0);
        }
        is("office", w.office(), 57);
        for (int n = 57; n >= 8; n--) {
            is("how many", w.fire(0, 1), n + 1);
            is("its fire", w.log(n, 4), 0);
            yes("undo", w.undo());
            is("it has left", w.log(n, 4), NONE);
        }
        no("undo", w.undo());
    }

    private static void upToTheLastCall() {
        promise = "an object is used for 512 calls";
        Watch w = flat(2);
        w.crew(0, 0);
        for (int n = 0; w.calls() < 455; n++) {
            w.move(0, n % 2, (n + 1) % 2);
        }
        int place = w.place(0);
        w.remark(77);
        for (int n = 0; n < 49; n++) {
            yes("undo", w.undo());
        }
        is("one is left", w.count(4), 1);
        yes("undo", w.undo());
        is("50 less the remark's", place == w.place(0) ? 0 : 1, 1);
        no("undo", w.undo());
        is("squares", w.count(5), 4);
        is("calls", w.calls(), 511);
        is("the 512th", w.count(3), 1);
    }
}
