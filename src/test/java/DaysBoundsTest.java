/** The bounds of promises 21 to 28; ahead of each test stands the sentence of the document that names them. */
public final class DaysBoundsTest {
    private static final Check CHECK = new Check("DaysBoundsTest");
    private static final Bounds BUSY = new Bounds(CHECK, Houses::busy);
    private static final int UNKNOWN = -1, OUTSIDE = -2, FULL = -4, NONE = -6;
    private static final long LOST = -1000000000000000000L;

    /** Seeds whose first draw is such an ACT, the second one being an hour: A! to F!, then each piece to a, b, c, d. */
    private static final int[] SEEDS_OF_SEATS = {1, 921, 46, 9, 913, 38};
    private static final int[] SEEDS_OF_WALKS = {919, 999, 887, 903, 12, 28, 44, 124, 71, 87, 167, 55,
        927, 1007, 895, 911, 20, 36, 52, 132, 79, 159, 47, 63};

    public static void main(String[] args) {
        seenNumbers();
        seenUntilFull();
        forgetNoneAndFull();
        doesWithoutSights();
        doesWhich();
        doesWithinIlls();
        doesByAllSights();
        triesWhat();
        triesLeast();
        homeNumbers();
        homeParts();
        homeWithoutDays();
        homeMostDays();
        homeTenths();
        homeNoneAndMost();
        homeCosts();
        homeIfTheSame();
        billPiece();
        billCoins();
        billNoneOver();
        billOver();
        draughtsPiece();
        draughtsNumbers();
        draughtsWithoutHours();
        draughtsTenths();
        draughtsWithinDamp();
        weekNumbers();
        weekByKind();
        weekSeeds();
        weekNoneAndAll();
        weekLastHour();
        CHECK.end();
    }

    /** Promise 21: "v (0 to 20), and m hours (1 to 9) later w"; "OUTSIDE". */
    private static void seenNumbers() {
        BUSY.refusedBeside("seen(n, 1, 0)", (x, n) -> x.seen(n, 1, 0), 0, 20, OUTSIDE);
        BUSY.refusedBeside("seen(0, n, 0)", (x, n) -> x.seen(0, n, 0), 1, 9, OUTSIDE);
        BUSY.refusedBeside("seen(0, 1, n)", (x, n) -> x.seen(0, 1, n), 0, 20, OUTSIDE);
        for (int v = 0; v <= 20; v += 20) {
            BUSY.taken("seen(n, 5, 10)", (x, n) -> x.seen(n, 5, 10), v, 2);
            BUSY.taken("seen(10, 5, n)", (x, n) -> x.seen(10, 5, n), v, 2);
        }
        BUSY.taken("seen(10, n, 10)", (x, n) -> x.seen(10, n, 10), 1, 2);
        BUSY.taken("seen(10, n, 10)", (x, n) -> x.seen(10, n, 10), 9, 2);
    }

    /** "SIGHTS, 8 at most"; "OUTSIDE; FULL". */
    private static void seenUntilFull() {
        FurnitureCure x = new FurnitureCure();
        for (int count = 1; count <= 8; count++) {
            CHECK.due("sight " + count, count, x.seen(20, 9, 20));
            CHECK.due("sights", count, x.told(3));
        }
        CHECK.due("sight 9", FULL, x.seen(20, 9, 20));
        Bounds full = new Bounds(CHECK, DaysBoundsTest::busyWithAllSights);
        full.refused("seen(3, n, 0) of the ninth", (y, n) -> y.seen(3, n, 0), 2, FULL);
        full.refused("seen(0, n, 20) of the ninth", (y, n) -> y.seen(0, n, 20), 1, FULL);
        full.refusedBeside("seen(n, 1, 0): outside ahead of full", (y, n) -> y.seen(n, 1, 0), 0, 20, OUTSIDE);
        full.refusedBeside("seen(0, n, 0): outside ahead of full", (y, n) -> y.seen(0, n, 0), 1, 9, OUTSIDE);
        full.refusedBeside("seen(0, 1, n): outside ahead of full", (y, n) -> y.seen(0, 1, n), 0, 20, OUTSIDE);
    }

    private static FurnitureCure busyWithAllSights() {
        FurnitureCure x = Houses.busy();
        for (int count = 1; count < 8; count++) {
            x.seen(3, 2, 0);
        }
        return x;
    }

    /** Promise 22: "SIGHTS go: how many there were", of none, of one, of eight. */
    private static void forgetNoneAndFull() {
        FurnitureCure x = new FurnitureCure();
        CHECK.due("forget() of none", 0, x.forget());
        x.seen(0, 1, 20);
        CHECK.due("forget() of one", 1, x.forget());
        CHECK.due("forget() again", 0, x.forget());
        for (int count = 0; count < 9; count++) {
            x.seen(0, 1, 20);
        }
        CHECK.due("forget() of eight", 8, x.forget());
        CHECK.due("no sights", 0, x.told(3));
        CHECK.due("all numbers fit again", 11, x.does(-1));
        CHECK.due("there is place again", 1, x.seen(20, 1, 15));
        CHECK.due("only what was seen since counts", 1, x.does(-1));
    }

    /** "DOES: numbers -5 to 5 by which all SIGHTS are so": without SIGHTS all eleven. */
    private static void doesWithoutSights() {
        FurnitureCure x = new FurnitureCure();
        CHECK.due("does(-1) without sights", 11, x.does(-1));
        for (int i = 0; i <= 10; i++) {
            CHECK.due("does(" + i + ") without sights", 5 + i, x.does(i));
        }
        for (int i : new int[] {11, 12, -2, -3, 43, Integer.MAX_VALUE, Integer.MIN_VALUE}) {
            CHECK.due("does(" + i + ") without sights", NONE, x.does(i));
        }
    }

    /** Promise 23: "how many (i = -1), the i-th, and 10; NONE". */
    private static void doesWhich() {
        fitting(new int[][] {{4, 1, 0}}, -5, -4);
        fitting(new int[][] {{5, 1, 0}}, -5, -5);
        fitting(new int[][] {{15, 1, 20}}, 5, 5);
        fitting(new int[][] {{16, 1, 20}}, 4, 5);
        fitting(new int[][] {{7, 1, 7}}, 0, 0);
        fitting(new int[][] {{7, 1, 7}, {7, 1, 8}}, 1, 0);
    }

    /** Numbers from least to most fit, none if most is below least. */
    private static void fitting(int[][] sights, int least, int most) {
        FurnitureCure x = new FurnitureCure();
        StringBuilder when = new StringBuilder("behind");
        for (int[] sight : sights) {
            x.seen(sight[0], sight[1], sight[2]);
            when.append(" seen(" + sight[0] + ", " + sight[1] + ", " + sight[2] + ")");
        }
        int count = Math.max(0, most - least + 1);
        CHECK.due("does(-1) " + when, count, x.does(-1));
        for (int i = 0; i < count; i++) {
            CHECK.due("does(" + i + ") " + when, least + i + 10, x.does(i));
        }
        for (int i : new int[] {count, count + 1, 11, -2, Integer.MAX_VALUE, Integer.MIN_VALUE}) {
            CHECK.due("does(" + i + ") " + when, NONE, x.does(i));
        }
    }

    /** "(.. 0 at least, 20 at most, hour by hour)". */
    private static void doesWithinIlls() {
        fitting(new int[][] {{0, 1, 0}}, -5, 0);
        fitting(new int[][] {{0, 9, 0}}, -5, 0);
        fitting(new int[][] {{20, 1, 20}}, 0, 5);
        fitting(new int[][] {{20, 9, 20}}, 0, 5);
        fitting(new int[][] {{1, 1, 0}}, -5, -1);
        fitting(new int[][] {{19, 1, 20}}, 1, 5);
        fitting(new int[][] {{0, 1, 5}}, 5, 5);
        fitting(new int[][] {{0, 1, 6}}, 1, 0);
        fitting(new int[][] {{20, 1, 15}}, -5, -5);
        fitting(new int[][] {{20, 1, 14}}, 1, 0);
        fitting(new int[][] {{0, 9, 9}}, 1, 1);
        fitting(new int[][] {{0, 9, 18}}, 2, 2);
        fitting(new int[][] {{0, 9, 20}}, 3, 5);
        fitting(new int[][] {{20, 9, 2}}, -2, -2);
        fitting(new int[][] {{20, 9, 0}}, -5, -3);
        fitting(new int[][] {{0, 4, 20}}, 5, 5);
        fitting(new int[][] {{20, 4, 0}}, -5, -5);
        fitting(new int[][] {{0, 3, 20}}, 1, 0);
        fitting(new int[][] {{0, 9, 0}, {20, 9, 20}}, 0, 0);
    }

    /** "numbers .. by which all SIGHTS are so": the first of eight, and the eighth, count as well. */
    private static void doesByAllSights() {
        for (int odd = 0; odd < 8; odd++) {
            int[][] sights = new int[8][];
            for (int i = 0; i < 8; i++) {
                sights[i] = i == odd ? new int[] {17, 1, 20} : new int[] {20, 9, 20};
            }
            fitting(sights, 3, 5);
            sights[odd] = new int[] {20, 9, 11};
            fitting(sights, 1, 0);
        }
    }

    /** Promise 24: "v (what = 0), how many (1); NONE: no number fits. OUTSIDE". */
    private static void triesWhat() {
        BUSY.refusedBeside("tries(n)", (x, n) -> x.tries(n), 0, 1, OUTSIDE);
        BUSY.taken("tries(n)", (x, n) -> x.tries(n), 0, 5);
        BUSY.taken("tries(n)", (x, n) -> x.tries(n), 1, 1);
        Bounds none = new Bounds(CHECK, DaysBoundsTest::busyWhereNoNumberFits);
        none.refusedBeside("tries(n) where none fits", (x, n) -> x.tries(n), 0, 1, OUTSIDE);
        none.taken("tries(n) where none fits", (x, n) -> x.tries(n), 0, NONE);
        none.taken("tries(n) where none fits", (x, n) -> x.tries(n), 1, NONE);
    }

    private static FurnitureCure busyWhereNoNumberFits() {
        FurnitureCure x = Houses.busy();
        x.seen(3, 1, 4);
        return x;
    }

    /** "fewest of these are left at the most: the least; how many". */
    private static void triesLeast() {
        int[][] cases = {{4, 1, 0, 5}, {1, 1, 0, 5}, {0, 1, 0, 5}, {5, 1, 0, 0}, {7, 1, 7, 0}, {7, 1, 2, 0},
            {20, 1, 20, 0}, {16, 1, 20, 0}, {0, 1, 5, 0}};
        for (int[] each : cases) {
            FurnitureCure x = new FurnitureCure();
            CHECK.due("tries(0) without sights", 5, x.tries(0));
            CHECK.due("tries(1) without sights", 1, x.tries(1));
            x.seen(each[0], each[1], each[2]);
            CHECK.due("tries(0) behind seen(" + each[0] + ", " + each[1] + ", " + each[2] + ")", each[3], x.tries(0));
            CHECK.due("tries(1) behind seen(" + each[0] + ", " + each[1] + ", " + each[2] + ")", 1, x.tries(1));
        }
    }

    /** Promise 25: "N ILLS (0 to 9)", "m days (0 to 9)", "t tenths (0 to 10)", "c (0 to 9)"; "OUTSIDE". */
    private static void homeNumbers() {
        for (int what = 0; what <= 1; what++) {
            int asked = what;
            BUSY.refusedBeside("home(n, 0, 0, 0, ..)", (x, n) -> x.home(n, 0, 0, 0, asked, 0), 0, 9, LOST - 2);
            BUSY.refusedBeside("home(9, n, 10, 9, ..)", (x, n) -> x.home(9, n, 10, 9, asked, 0), 0, 9, LOST - 2);
            BUSY.refusedBeside("home(0, 9, n, 0, ..)", (x, n) -> x.home(0, 9, n, 0, asked, 1), 0, 10, LOST - 2);
            BUSY.refusedBeside("home(0, 0, 0, n, ..)", (x, n) -> x.home(0, 0, 0, n, asked, 0), 0, 9, LOST - 2);
        }
        homeDue(new int[] {0, 0, 0, 0}, 10, 1, 1);
        homeDue(new int[] {9, 9, 10, 9}, 1, 1, 1);
        homeDue(new int[] {9, 0, 0, 0}, 1, 1, 1);
        homeDue(new int[] {0, 9, 10, 9}, 10, 1, 1);
    }

    /** Promise 25: "the mean (what = 0 ..), whether it is sent (1: 1, 0, be part 0 or 1)". */
    private static void homeParts() {
        BUSY.refusedBeside("home(0, 0, 0, 0, n, 0)", (x, n) -> x.home(0, 0, 0, 0, n, 0), 0, 1, LOST - 2);
        BUSY.refusedBeside("home(9, 9, 1, 0, n, 1)", (x, n) -> x.home(9, 9, 1, 0, n, 1), 0, 1, LOST - 2);
        BUSY.refusedBeside("home(0, 0, 0, 0, 0, n)", (x, n) -> x.home(0, 0, 0, 0, 0, n), 0, 1, LOST - 2);
        BUSY.refusedBeside("home(0, 0, 0, 0, 1, n)", (x, n) -> x.home(0, 0, 0, 0, 1, n), 0, 1, LOST - 2);
        BUSY.taken("home(9, 1, 1, 0, 0, n)", (x, n) -> x.home(9, 1, 1, 0, 0, n), 0, 11);
        BUSY.taken("home(9, 1, 1, 0, 0, n)", (x, n) -> x.home(9, 1, 1, 0, 0, n), 1, 10);
        BUSY.taken("home(9, 1, 1, 0, 1, n)", (x, n) -> x.home(9, 1, 1, 0, 1, n), 0, 0);
        BUSY.taken("home(9, 1, 1, 0, 1, n)", (x, n) -> x.home(9, 1, 1, 0, 1, n), 1, 0);
    }

    private static void homeDue(int[] a, long upper, long lower, long sent) {
        FurnitureCure x = new FurnitureCure();
        String call = "home(" + a[0] + ", " + a[1] + ", " + a[2] + ", " + a[3];
        CHECK.due(call + ", 0, 0)", upper, x.home(a[0], a[1], a[2], a[3], 0, 0));
        CHECK.due(call + ", 0, 1)", lower, x.home(a[0], a[1], a[2], a[3], 0, 1));
        CHECK.due(call + ", 1, 0)", sent, x.home(a[0], a[1], a[2], a[3], 1, 0));
        CHECK.due(call + ", 1, 1)", sent, x.home(a[0], a[1], a[2], a[3], 1, 1));
    }

    /** "when no day is left it goes home, and one is paid likewise" (10 less N). */
    private static void homeWithoutDays() {
        for (int n = 0; n <= 9; n++) {
            for (int t = 0; t <= 10; t += 10) {
                homeDue(new int[] {n, 0, t, 0}, 10 - n, 1, 1);
                homeDue(new int[] {n, 0, t, 9}, 10 - n, 1, 1);
            }
        }
    }

    /** "m days yet (0 to 9)": one ILL less a day, as long as there are days and ILLS. */
    private static void homeMostDays() {
        for (int n = 0; n <= 9; n++) {
            for (int m = 0; m <= 9; m++) {
                homeDue(new int[] {n, m, 10, 0}, 10 - Math.max(0, n - m), 1, m == 0 || n == 0 ? 1 : 0);
            }
        }
    }

    /** "it has 1 less with t tenths (0 to 10 ..), 1 more else": a day's mean of N 5 is 4 and t fifths. */
    private static void homeTenths() {
        long[] upper = {5, 5, 5, 5, 5, 5, 26, 27, 28, 29, 6};
        long[] lower = {1, 1, 1, 1, 1, 1, 5, 5, 5, 5, 1};
        for (int t = 0; t <= 10; t++) {
            homeDue(new int[] {5, 1, t, 0}, upper[t], lower[t], t <= 5 ? 1 : 0);
        }
    }

    /** "1 less .. (of 0 none), 1 more else (9 at most)". */
    private static void homeNoneAndMost() {
        homeDue(new int[] {0, 1, 10, 0}, 10, 1, 1);
        homeDue(new int[] {0, 9, 10, 0}, 10, 1, 1);
        homeDue(new int[] {0, 1, 5, 0}, 10, 1, 1);
        homeDue(new int[] {9, 1, 0, 0}, 1, 1, 1);
        homeDue(new int[] {9, 9, 0, 0}, 1, 1, 1);
        homeDue(new int[] {9, 1, 1, 0}, 11, 10, 0);
        homeDue(new int[] {9, 1, 5, 0}, 3, 2, 0);
        homeDue(new int[] {9, 1, 9, 0}, 19, 10, 0);
        // With two days yet: of 8 it is sent with 1 day left, of 9 it is kept: 0.1 of 2 and 0.9 of 1.1.
        homeDue(new int[] {9, 2, 1, 0}, 119, 100, 0);
        homeDue(new int[] {8, 1, 1, 0}, 2, 1, 1);
        homeDue(new int[] {8, 1, 5, 0}, 2, 1, 1);
        homeDue(new int[] {8, 1, 6, 0}, 11, 5, 0);
    }

    /** "one pays c (0 to 9)": the day that brings 1 for sure pays for itself with 1, and not with more. */
    private static void homeCosts() {
        homeDue(new int[] {5, 1, 10, 0}, 6, 1, 0);
        for (int c = 1; c <= 9; c++) {
            homeDue(new int[] {5, 1, 10, c}, 5, 1, 1);
            homeDue(new int[] {9, 9, 10, c}, 1, 1, 1);
        }
    }

    /** "whether it is sent at once (1, 0; if it is the same, it is)". */
    private static void homeIfTheSame() {
        homeDue(new int[] {5, 1, 5, 0}, 5, 1, 1);
        homeDue(new int[] {5, 1, 10, 1}, 5, 1, 1);
        homeDue(new int[] {0, 9, 10, 0}, 10, 1, 1);
        homeDue(new int[] {9, 9, 0, 0}, 1, 1, 1);
        homeDue(new int[] {5, 1, 6, 0}, 26, 5, 0);
        homeDue(new int[] {5, 1, 4, 0}, 5, 1, 1);
    }

    /** Promise 26: "UNKNOWN; OUTSIDE". */
    private static void billPiece() {
        BUSY.refusedBeside("bill(9, n)", (x, n) -> x.bill(9, n), 0, 5, UNKNOWN);
        BUSY.refusedBeside("bill(10000, n): unknown ahead of outside", (x, n) -> x.bill(10000, n), 0, 5, UNKNOWN);
        for (int absent : new int[] {1, 3, 4}) {
            BUSY.refused("bill(9, " + absent + ")", (x, n) -> x.bill(9, n), absent, UNKNOWN);
            BUSY.refused("bill(-1, " + absent + "): unknown first", (x, n) -> x.bill(-1, n), absent, UNKNOWN);
        }
        // Weights 6, 1 and 59 of 66.
        BUSY.taken("bill(66, n)", (x, n) -> x.bill(66, n), 0, 6);
        BUSY.taken("bill(66, n)", (x, n) -> x.bill(66, n), 2, 1);
        BUSY.taken("bill(66, n)", (x, n) -> x.bill(66, n), 5, 59);
        for (int piece = 0; piece < 6; piece++) {
            CHECK.due("bill(1, " + piece + ") of none there", UNKNOWN, new FurnitureCure().bill(1, piece));
        }
    }

    /** "c coins (0 to 9999)". */
    private static void billCoins() {
        BUSY.refusedBeside("bill(n, 0)", (x, n) -> x.bill(n, 0), 0, 9999, OUTSIDE);
        BUSY.refusedBeside("bill(n, 5)", (x, n) -> x.bill(n, 5), 0, 9999, OUTSIDE);
        BUSY.taken("bill(n, 5)", (x, n) -> x.bill(n, 5), 0, 0);
        BUSY.taken("bill(n, 5)", (x, n) -> x.bill(n, 5), 1, 1);
        BUSY.taken("bill(n, 0)", (x, n) -> x.bill(n, 0), 9999, 909);
        BUSY.taken("bill(n, 2)", (x, n) -> x.bill(n, 2), 9999, 151);
        BUSY.taken("bill(n, 5)", (x, n) -> x.bill(n, 5), 9999, 8939);
        FurnitureCure x = Houses.withOne(3, 20, 20, 20);
        for (int c : new int[] {0, 1, 9998, 9999}) {
            CHECK.due("bill(" + c + ", 3) of one alone", c, x.bill(c, 3));
            CHECK.due("bill(" + c + ", 3) of one alone that is well", c, Houses.withOne(3, 0, 0, 0).bill(c, 3));
        }
        CHECK.due("bill(10000, 3) of one alone", OUTSIDE, x.bill(10000, 3));
    }

    /** "by ILLS, all together, and 1 each": who is well pays by 1, and all who are the same pay the same. */
    private static void billNoneOver() {
        FurnitureCure x = Houses.withAll(0, 0, 0);
        billsDue(x, 6, 1, 1, 1, 1, 1, 1);
        billsDue(x, 9996, 1666, 1666, 1666, 1666, 1666, 1666);
        x.piece(5, 20, 20, 20);
        billsDue(x, 66, 1, 1, 1, 1, 1, 61);
        billsDue(x, 132, 2, 2, 2, 2, 2, 122);
        FurnitureCure y = Houses.withAll(20, 20, 20);
        billsDue(y, 366, 61, 61, 61, 61, 61, 61);
    }

    /** "(cut); what is over 1 each from the PIECE with most on (of several the least)": from one to five over. */
    private static void billOver() {
        FurnitureCure x = Houses.withAll(20, 20, 20);
        billsDue(x, 0, 0, 0, 0, 0, 0, 0);
        billsDue(x, 1, 1, 0, 0, 0, 0, 0);
        billsDue(x, 5, 1, 1, 1, 1, 1, 0);
        billsDue(x, 6, 1, 1, 1, 1, 1, 1);
        billsDue(x, 7, 2, 1, 1, 1, 1, 1);
        billsDue(x, 9999, 1667, 1667, 1667, 1666, 1666, 1666);
        x.piece(5, 20, 20, 19);
        x.piece(0, 20, 20, 18);
        // All shares are cut to 0, so the coins tell the order: B C D E, then F, then A.
        billsDue(x, 1, 0, 1, 0, 0, 0, 0);
        billsDue(x, 4, 0, 1, 1, 1, 1, 0);
        billsDue(x, 5, 0, 1, 1, 1, 1, 1);
        FurnitureCure y = Houses.withAll(0, 0, 0);
        y.piece(5, 1, 0, 0);
        // Weights 1 and for F 2 of 7: six coins are 0 each and 1 for F; five are over.
        billsDue(y, 6, 1, 1, 1, 1, 0, 2);
        billsDue(y, 7, 1, 1, 1, 1, 1, 2);
    }

    private static void billsDue(FurnitureCure x, int coins, int... due) {
        for (int piece = 0; piece < due.length; piece++) {
            CHECK.due("bill(" + coins + ", " + piece + ")", due[piece], x.bill(coins, piece));
        }
    }

    /** Promise 27: "UNKNOWN; OUTSIDE". */
    private static void draughtsPiece() {
        BUSY.refusedBeside("draughts(n, 1, 1, 1, 0)", (x, n) -> x.draughts(n, 1, 1, 1, 0), 0, 5, LOST - 1);
        BUSY.refusedBeside("draughts(n, 10, ..): unknown ahead of outside",
                (x, n) -> x.draughts(n, 10, 11, 21, 2), 0, 5, LOST - 1);
        for (int absent : new int[] {1, 3, 4}) {
            BUSY.refused("draughts(" + absent + ", ..)", (x, n) -> x.draughts(n, 1, 1, 1, 0), absent, LOST - 1);
            BUSY.refused("draughts(" + absent + ", .., 2): unknown first", (x, n) -> x.draughts(n, 1, 1, 1, 2), absent,
                    LOST - 1);
        }
        BUSY.taken("draughts(n, 0, 0, 17, 0)", (x, n) -> x.draughts(n, 0, 0, 17, 0), 0, 1);
        BUSY.taken("draughts(n, 0, 0, 17, 0)", (x, n) -> x.draughts(n, 0, 0, 17, 0), 5, 0);
    }

    /** "m hours (0 to 9)", "t tenths (0 to 10)", "v (0 to 20)", part 0 and 1. */
    private static void draughtsNumbers() {
        BUSY.refusedBeside("draughts(0, n, 0, 0, 0)", (x, n) -> x.draughts(0, n, 0, 0, 0), 0, 9, LOST - 2);
        BUSY.refusedBeside("draughts(5, 9, n, 20, 1)", (x, n) -> x.draughts(5, 9, n, 20, 1), 0, 10, LOST - 2);
        BUSY.refusedBeside("draughts(5, 9, 10, n, 1)", (x, n) -> x.draughts(5, 9, 10, n, 1), 0, 20, LOST - 2);
        BUSY.refusedBeside("draughts(0, 0, 0, 0, n)", (x, n) -> x.draughts(0, 0, 0, 0, n), 0, 1, LOST - 2);
        BUSY.taken("draughts(5, n, 1, 18, 0)", (x, n) -> x.draughts(5, n, 1, 18, 0), 0, 1);
        BUSY.taken("draughts(5, n, 1, 18, 0)", (x, n) -> x.draughts(5, n, 1, 18, 0), 9, 387420489);
        BUSY.taken("draughts(5, n, 1, 18, 1)", (x, n) -> x.draughts(5, n, 1, 18, 1), 9, 1000000000);
        BUSY.taken("draughts(5, 1, n, 18, 0)", (x, n) -> x.draughts(5, 1, n, 18, 0), 0, 1);
        BUSY.taken("draughts(5, 1, n, 18, 0)", (x, n) -> x.draughts(5, 1, n, 18, 0), 10, 0);
        BUSY.taken("draughts(5, 9, 9, n, 0)", (x, n) -> x.draughts(5, 9, 9, n, 0), 0, 0);
        BUSY.taken("draughts(5, 9, 9, n, 0)", (x, n) -> x.draughts(5, 9, 9, n, 0), 20, 1);
        BUSY.taken("draughts(5, 1, 5, 18, n)", (x, n) -> x.draughts(5, 1, 5, 18, n), 0, 1);
        BUSY.taken("draughts(5, 1, 5, 18, n)", (x, n) -> x.draughts(5, 1, 5, 18, n), 1, 2);
    }

    private static void draughtsDue(FurnitureCure x, int[] a, long upper, long lower) {
        String call = "draughts(" + a[0] + ", " + a[1] + ", " + a[2] + ", " + a[3];
        CHECK.due(call + ", 0)", upper, x.draughts(a[0], a[1], a[2], a[3], 0));
        CHECK.due(call + ", 1)", lower, x.draughts(a[0], a[1], a[2], a[3], 1));
    }

    /** "in m hours (0 ..)", "that it is v .. at most then": with no hours, it is as it is. */
    private static void draughtsWithoutHours() {
        for (int damp = 0; damp <= 20; damp++) {
            FurnitureCure x = Houses.withOne(4, 1, 1, damp);
            x.room(0, 2, 5);
            for (int v = Math.max(0, damp - 1); v <= Math.min(20, damp + 1); v++) {
                draughtsDue(x, new int[] {4, 0, 10, v}, v >= damp ? 1 : 0, 1);
            }
        }
    }

    /** "1 DAMP more with t tenths (0 to 10) in each": none, one, and so many as there are hours. */
    private static void draughtsTenths() {
        FurnitureCure x = Houses.withOne(0, 1, 1, 0);
        for (int m = 0; m <= 9; m++) {
            draughtsDue(x, new int[] {0, m, 0, 0}, 1, 1);
            draughtsDue(x, new int[] {0, m, 10, m}, 1, 1);
            if (m > 0) {
                draughtsDue(x, new int[] {0, m, 10, m - 1}, 0, 1);
                draughtsDue(x, new int[] {0, m, 5, 0}, 1, 1 << m);
                draughtsDue(x, new int[] {0, m, 5, m - 1}, (1 << m) - 1, 1 << m);
            }
        }
        long[] upper = {1, 9, 4, 7, 3, 1, 2, 3, 1, 1, 0};
        long[] lower = {1, 10, 5, 10, 5, 2, 5, 10, 5, 10, 1};
        for (int t = 0; t <= 10; t++) {
            draughtsDue(x, new int[] {0, 1, t, 0}, upper[t], lower[t]);
        }
    }

    /** "besides what its ROOM DOES (0 at least, 20 at most, by the hour)". */
    private static void draughtsWithinDamp() {
        FurnitureCure x = Houses.withOne(0, 1, 1, 20);
        draughtsDue(x, new int[] {0, 9, 5, 19}, 0, 1);
        draughtsDue(x, new int[] {0, 9, 5, 20}, 1, 1);
        x.room(0, 2, -1);
        // From 20 it falls by 1, or stays; had it gone above 20, it could not be 19 so often.
        draughtsDue(x, new int[] {0, 1, 5, 19}, 1, 2);
        draughtsDue(x, new int[] {0, 2, 5, 19}, 3, 4);
        draughtsDue(x, new int[] {0, 2, 5, 18}, 1, 4);
        x.room(0, 2, 5);
        x.piece(0, 1, 1, 14);
        draughtsDue(x, new int[] {0, 1, 5, 19}, 1, 2);
        draughtsDue(x, new int[] {0, 2, 5, 19}, 0, 1);
        x.room(0, 2, -1);
        x.piece(0, 1, 1, 0);
        draughtsDue(x, new int[] {0, 9, 5, 0}, 1, 1);
        x.piece(0, 1, 1, 1);
        draughtsDue(x, new int[] {0, 1, 5, 0}, 1, 2);
        draughtsDue(x, new int[] {0, 2, 5, 0}, 3, 4);
        x.room(0, 2, -5);
        x.piece(0, 1, 1, 5);
        draughtsDue(x, new int[] {0, 1, 3, 0}, 7, 10);
        x.piece(0, 1, 1, 4);
        draughtsDue(x, new int[] {0, 1, 3, 0}, 1, 1);
        x.room(0, 2, 0);
        x.room(3, 2, 1);
        Houses.act(x, "Ad");
        draughtsDue(x, new int[] {0, 1, 3, 5}, 7, 10);
    }

    /** Promise 28: "a seed (0 to 9999) of m ACTS (1 to 99)"; "ILLS (what = 0), WELL (1), hours (2)"; "OUTSIDE". */
    private static void weekNumbers() {
        BUSY.refusedBeside("week(n, 1, 0)", (x, n) -> x.week(n, 1, 0), 0, 9999, OUTSIDE);
        BUSY.refusedBeside("week(0, n, 1)", (x, n) -> x.week(0, n, 1), 1, 99, OUTSIDE);
        BUSY.refusedBeside("week(0, 1, n)", (x, n) -> x.week(0, 1, n), 0, 2, OUTSIDE);
        BUSY.taken("week(n, 1, 2)", (x, n) -> x.week(n, 1, 2), 0, 1);
        BUSY.taken("week(n, 1, 2)", (x, n) -> x.week(n, 1, 2), 9999, 0);
        // From 9999 A is sat in twice, then two hours pass; the last two draws of 99 are hours, too.
        int[] hours = {0, 0, 1, 2};
        for (int m = 1; m <= 4; m++) {
            BUSY.taken("week(9999, n, 2)", (x, n) -> x.week(9999, n, 2), m, hours[m - 1]);
        }
        BUSY.taken("week(9999, n, 2)", (x, n) -> x.week(9999, n, 2), 97, 46);
        BUSY.taken("week(9999, n, 2)", (x, n) -> x.week(9999, n, 2), 98, 47);
        BUSY.taken("week(9999, n, 2)", (x, n) -> x.week(9999, n, 2), 99, 48);
        // An hour: A, which is sat in, has 0, 1, 0 then, C is well, F has 20, 20, 18.
        BUSY.taken("week(0, 1, n)", (x, n) -> x.week(0, 1, n), 0, 59);
        BUSY.taken("week(0, 1, n)", (x, n) -> x.week(0, 1, n), 1, 1);
        BUSY.taken("week(0, 1, n)", (x, n) -> x.week(0, 1, n), 2, 1);
    }

    /** "0, 1, 2, 3 an hour passes, 4, 5 PIECE .. is SAT in, else it is walked": each left over by 8. */
    private static void weekByKind() {
        int[] seedsByKind = {2, 29, 0, 3, 38, 1, 12, 47};
        for (int kind = 0; kind < 8; kind++) {
            FurnitureCure x = Houses.withAll(9, 0, 0);
            Houses.act(x, "Bb");
            CHECK.due("hours of a draw of kind " + kind, kind < 4 ? 1 : 0, x.week(seedsByKind[kind], 1, 2));
            CHECK.due("hours of two draws, the first of kind " + kind, kind < 4 ? 2 : 1,
                    x.week(seedsByKind[kind], 2, 2));
            CHECK.due("ills behind two draws, the first of kind " + kind, kind == 4 || kind == 5 ? 52 : 54,
                    x.week(seedsByKind[kind], 2, 0));
        }
        for (int piece = 0; piece < 6; piece++) {
            FurnitureCure x = Houses.withOne(piece, 9, 0, 0);
            CHECK.due("week where " + piece + " is sat in", 7, x.week(SEEDS_OF_SEATS[piece], 2, 0));
            Houses.act(x, (char) ('A' + piece) + "!");
            CHECK.due("week where " + piece + " is sat in already", 7, x.week(SEEDS_OF_SEATS[piece], 2, 0));
            for (int room = 0; room < 4; room++) {
                walkedByDraw(piece, room, SEEDS_OF_WALKS[4 * piece + room]);
            }
        }
    }

    private static void walkedByDraw(int piece, int room, int seed) {
        FurnitureCure x = Houses.withOne(piece, 0, 0, 0);
        x.room(room, 2, 5);
        char letter = (char) ('A' + piece);
        Houses.act(x, letter + (room == 0 ? "b" : "!."));
        CHECK.due("week where " + letter + " is walked to " + room, 0, x.week(seed, 1, 0));
        CHECK.due("week where " + letter + " has an hour in " + room, 5, x.week(seed, 2, 0));
        CHECK.due("who is well then", 0, x.week(seed, 2, 1));
        Houses.act(x, letter + "!");
        CHECK.due("week where " + letter + " is sat in and can not be walked", 0, x.week(seed, 2, 0));
    }

    /** "x becomes (75 x and 74) left over by 65537": 872 comes just below that, 873 is the first to go round. */
    private static void weekSeeds() {
        FurnitureCure x = Houses.withAll(9, 0, 0);
        CHECK.due("week(872, 1, 2): 65474, an hour", 1, x.week(872, 1, 2));
        CHECK.due("week(873, 1, 2): 12, B is sat in", 0, x.week(873, 1, 2));
        // 12, 974, 7587: B!, Ba (it is there), an hour.
        CHECK.due("week(873, 3, 0)", 52, x.week(873, 3, 0));
        CHECK.due("week(873, 3, 2)", 1, x.week(873, 3, 2));
        x.leave(1);
        CHECK.due("week(873, 3, 0) without B", 45, x.week(873, 3, 0));
    }

    /** "ILLS of all together; how many are WELL": of none there, of all. */
    private static void weekNoneAndAll() {
        FurnitureCure none = new FurnitureCure();
        FurnitureCure well = Houses.withAll(0, 0, 0);
        FurnitureCure ill = Houses.withAll(20, 20, 20);
        CHECK.due("ills of none there", 0, none.week(0, 1, 0));
        CHECK.due("none there is well", 0, none.week(0, 1, 1));
        CHECK.due("hours of none there", 48, none.week(9999, 99, 2));
        CHECK.due("ills of the well", 0, well.week(0, 99, 0));
        CHECK.due("all are well", 6, well.week(9999, 99, 1));
        CHECK.due("ills of all at the worst", 360, ill.week(0, 1, 0));
        CHECK.due("none at the worst is well", 0, ill.week(0, 1, 1));
        ill.room(0, 0, -5);
        ill.room(0, 1, -5);
        ill.room(0, 2, -5);
        CHECK.due("ills of all behind two hours", 180, ill.week(0, 2, 0));
    }

    /** "each if that can be": no hour passes at hour 99. */
    private static void weekLastHour() {
        FurnitureCure x = Houses.withOne(0, 9, 9, 9);
        Houses.pass(x, 51);
        CHECK.due("week(9999, 99, 2) at hour 51", 48, x.week(9999, 99, 2));
        Houses.pass(x, 1);
        CHECK.due("week(9999, 99, 2) at hour 52", 47, x.week(9999, 99, 2));
        Houses.pass(x, 46);
        CHECK.due("week(0, 1, 2) at hour 98", 1, x.week(0, 1, 2));
        CHECK.due("week(0, 2, 2) at hour 98", 1, x.week(0, 2, 2));
        Houses.pass(x, 1);
        CHECK.due("it is hour 99", 99, x.told(2));
        CHECK.due("week(0, 1, 2) at hour 99", 0, x.week(0, 1, 2));
        CHECK.due("week(9999, 99, 2) at hour 99", 0, x.week(9999, 99, 2));
        CHECK.due("week(9999, 99, 0) at hour 99", 27, x.week(9999, 99, 0));
        CHECK.due("it is hour 99 still", 99, x.told(2));
    }
}
