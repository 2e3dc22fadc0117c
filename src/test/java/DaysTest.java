/** Promises 21 to 28: sights, days, bills, draughts and weeks. */
public final class DaysTest {
    private static final Check CHECK = new Check("DaysTest");
    private static final long LOST = -1000000000000000000L;

    public static void main(String[] args) {
        seen();
        forget();
        does();
        tries();
        home();
        homeRefused();
        bill();
        billOver();
        draughts();
        draughtsRefused();
        week();
        weekDoesNothing();
        CHECK.end();
    }

    private static void seen() {
        FurnitureCure x = new FurnitureCure();
        int[][] beside = {{-1, 1, 0}, {21, 1, 0}, {0, 0, 0}, {0, 10, 0}, {0, 1, -1}, {0, 1, 21}};
        for (int[] b : beside) {
            CHECK.due("seen(" + b[0] + ", " + b[1] + ", " + b[2] + ")", -2, x.seen(b[0], b[1], b[2]));
        }
        CHECK.due("no sights", 0, x.told(3));
        CHECK.due("seen(0, 1, 20)", 1, x.seen(0, 1, 20));
        for (int i = 2; i <= 8; i++) {
            CHECK.due("sight " + i, i, x.seen(20, 9, 0));
        }
        CHECK.due("a ninth sight", -4, x.seen(20, 9, 0));
        CHECK.due("a ninth sight that is not as told", -2, x.seen(20, 10, 0));
        CHECK.due("sights", 8, x.told(3));
    }

    private static void forget() {
        FurnitureCure x = new FurnitureCure();
        CHECK.due("forget() of none", 0, x.forget());
        x.seen(5, 1, 9);
        x.seen(5, 1, 8);
        CHECK.due("forget()", 2, x.forget());
        CHECK.due("sights", 0, x.told(3));
        CHECK.due("all numbers fit again", 11, x.does(-1));
    }

    private static void does() {
        FurnitureCure x = new FurnitureCure();
        CHECK.due("does(0) at first", 5, x.does(0));
        CHECK.due("does(10) at first", 15, x.does(10));
        CHECK.due("does(11) at first", -6, x.does(11));
        CHECK.due("does(-2)", -6, x.does(-2));
        CHECK.due("does(least)", -6, x.does(Integer.MIN_VALUE));
        x.seen(18, 2, 20);
        CHECK.due("1 at least", 5, x.does(-1));
        CHECK.due("the first one", 11, x.does(0));
        CHECK.due("the last one", 15, x.does(4));
        x.seen(0, 5, 15);
        CHECK.due("one fits both", 1, x.does(-1));
        CHECK.due("it is 3", 13, x.does(0));
        CHECK.due("no other", -6, x.does(1));
        x.seen(3, 1, 3);
        CHECK.due("none fits", 0, x.does(-1));
        CHECK.due("none is first", -6, x.does(0));
    }

    private static void tries() {
        FurnitureCure x = new FurnitureCure();
        CHECK.due("tries(0) at first", 5, x.tries(0));
        CHECK.due("tries(1) at first", 1, x.tries(1));
        x.seen(20, 1, 20);
        CHECK.due("0 to 5 are tried by 0", 0, x.tries(0));
        CHECK.due("one is left", 1, x.tries(1));
        x.forget();
        x.seen(1, 9, 0);
        CHECK.due("-5 to -1 are tried by 5", 5, x.tries(0));
        x.forget();
        x.seen(0, 9, 0);
        CHECK.due("-5 to 0", 6, x.does(-1));
        CHECK.due("-5 to 0 are tried by 5", 5, x.tries(0));
        x.seen(0, 1, 1);
        CHECK.due("tries(0) where none fits", -6, x.tries(0));
        CHECK.due("tries(1) where none fits", -6, x.tries(1));
        CHECK.due("tries(2)", -2, x.tries(2));
        CHECK.due("tries(-1)", -2, x.tries(-1));
    }

    private static void homeDue(int[] a, long upper, long lower, long sent) {
        FurnitureCure x = new FurnitureCure();
        String call = "home(" + a[0] + ", " + a[1] + ", " + a[2] + ", " + a[3];
        CHECK.due(call + ", 0, 0)", upper, x.home(a[0], a[1], a[2], a[3], 0, 0));
        CHECK.due(call + ", 0, 1)", lower, x.home(a[0], a[1], a[2], a[3], 0, 1));
        CHECK.due(call + ", 1, 0)", sent, x.home(a[0], a[1], a[2], a[3], 1, 0));
        CHECK.due(call + ", 1, 1)", sent, x.home(a[0], a[1], a[2], a[3], 1, 1));
    }

    private static void home() {
        for (int n = 0; n <= 9; n++) {
            homeDue(new int[] {n, 0, 5, 9}, 10 - n, 1, 1);
        }
        homeDue(new int[] {3, 3, 10, 0}, 10, 1, 0);
        homeDue(new int[] {3, 2, 10, 0}, 9, 1, 0);
        homeDue(new int[] {3, 9, 10, 0}, 10, 1, 0);
        homeDue(new int[] {3, 9, 10, 1}, 7, 1, 1);
        homeDue(new int[] {0, 9, 10, 0}, 10, 1, 1);
        homeDue(new int[] {0, 9, 0, 0}, 10, 1, 1);
        homeDue(new int[] {5, 1, 6, 0}, 26, 5, 0);
        homeDue(new int[] {9, 1, 1, 0}, 11, 10, 0);
        homeDue(new int[] {9, 2, 5, 0}, 7, 4, 0);
        homeDue(new int[] {9, 2, 1, 0}, 119, 100, 0);
    }

    private static void homeRefused() {
        FurnitureCure x = new FurnitureCure();
        int[] most = {9, 9, 10, 9, 1, 1};
        for (int i = 0; i < 6; i++) {
            int[] a = new int[6];
            a[i] = -1;
            CHECK.due("home, number " + i + " below", LOST - 2, x.home(a[0], a[1], a[2], a[3], a[4], a[5]));
            a[i] = most[i] + 1;
            CHECK.due("home, number " + i + " above", LOST - 2, x.home(a[0], a[1], a[2], a[3], a[4], a[5]));
        }
    }

    private static void bill() {
        FurnitureCure x = Houses.withTwo();
        CHECK.due("bill(14, 0)", 13, x.bill(14, 0));
        CHECK.due("bill(14, 1)", 1, x.bill(14, 1));
        CHECK.due("bill(0, 0)", 0, x.bill(0, 0));
        CHECK.due("bill(10000, 2)", -1, x.bill(10000, 2));
        CHECK.due("bill(1, -1)", -1, x.bill(1, -1));
        CHECK.due("bill(1, 6)", -1, x.bill(1, 6));
        CHECK.due("bill(10000, 0)", -2, x.bill(10000, 0));
        CHECK.due("bill(-1, 0)", -2, x.bill(-1, 0));
        x.leave(0);
        CHECK.due("bill(9999, 1) of one alone", 9999, x.bill(9999, 1));
    }

    private static void billOver() {
        FurnitureCure x = new FurnitureCure();
        for (int piece = 0; piece < 6; piece++) {
            x.piece(piece, 0, 0, 0);
        }
        int[] even = {2, 2, 2, 2, 1, 1};
        billsDue(x, "even", 10, even);
        x.piece(0, 0, 0, 0);
        x.piece(1, 1, 0, 1);
        x.piece(2, 0, 1, 0);
        x.piece(3, 1, 1, 1);
        x.piece(4, 0, 2, 0);
        x.leave(5);
        // Weights 1 3 2 4 3 of 13: of 12 coins 0.9, 2.7, 1.8, 3.6, 2.7; four are over.
        int[] uneven = {0, 3, 2, 4, 3};
        billsDue(x, "uneven", 12, uneven);
        // Of 2 coins 0 each; two are over: D's, then B's, who comes ahead of E.
        int[] few = {0, 1, 0, 1, 0};
        billsDue(x, "few", 2, few);
    }

    private static void billsDue(FurnitureCure x, String when, int coins, int[] due) {
        int sum = 0;
        for (int piece = 0; piece < due.length; piece++) {
            CHECK.due("bill(" + coins + ", " + piece + ") " + when, due[piece], x.bill(coins, piece));
            sum += x.bill(coins, piece);
        }
        CHECK.due("all of it is shared, " + when, coins, sum);
    }

    private static void draughtsDue(FurnitureCure x, int[] a, long upper, long lower) {
        String call = "draughts(" + a[0] + ", " + a[1] + ", " + a[2] + ", " + a[3];
        CHECK.due(call + ", 0)", upper, x.draughts(a[0], a[1], a[2], a[3], 0));
        CHECK.due(call + ", 1)", lower, x.draughts(a[0], a[1], a[2], a[3], 1));
    }

    private static void draughts() {
        FurnitureCure x = new FurnitureCure();
        x.piece(3, 0, 0, 2);
        draughtsDue(x, new int[] {3, 0, 5, 1}, 0, 1);
        draughtsDue(x, new int[] {3, 0, 5, 2}, 1, 1);
        draughtsDue(x, new int[] {3, 2, 5, 2}, 1, 4);
        draughtsDue(x, new int[] {3, 2, 5, 3}, 3, 4);
        draughtsDue(x, new int[] {3, 2, 5, 4}, 1, 1);
        draughtsDue(x, new int[] {3, 9, 10, 10}, 0, 1);
        draughtsDue(x, new int[] {3, 9, 10, 11}, 1, 1);
        draughtsDue(x, new int[] {3, 9, 0, 2}, 1, 1);
        draughtsDue(x, new int[] {3, 9, 1, 2}, 387420489, 1000000000);
        x.room(2, 2, 5);
        x.bad(0, 3, 3);
        Houses.act(x, "DcD!");
        draughtsDue(x, new int[] {3, 3, 2, 17}, 64, 125);
        draughtsDue(x, new int[] {3, 4, 0, 19}, 0, 1);
        draughtsDue(x, new int[] {3, 4, 0, 20}, 1, 1);
        x.room(2, 2, 0);
        x.piece(3, 0, 0, 20);
        draughtsDue(x, new int[] {3, 3, 5, 19}, 0, 1);
        draughtsDue(x, new int[] {3, 3, 5, 20}, 1, 1);
        x.room(0, 2, -1);
        draughtsDue(x, new int[] {3, 2, 5, 19}, 3, 4);
        x.room(2, 2, -1);
        x.piece(3, 0, 0, 0);
        Houses.act(x, "Dc");
        draughtsDue(x, new int[] {3, 9, 7, 0}, 1, 1);
        CHECK.due("nothing is done", 0, x.told(42));
    }

    private static void draughtsRefused() {
        FurnitureCure x = new FurnitureCure();
        x.piece(3, 0, 0, 2);
        CHECK.due("draughts(0, 99, 0, 0, 0)", LOST - 1, x.draughts(0, 99, 0, 0, 0));
        CHECK.due("draughts(-1, 0, 0, 0, 0)", LOST - 1, x.draughts(-1, 0, 0, 0, 0));
        CHECK.due("draughts(6, 0, 0, 0, 0)", LOST - 1, x.draughts(6, 0, 0, 0, 0));
        int[] most = {9, 10, 20, 1};
        for (int i = 0; i < 4; i++) {
            int[] a = new int[4];
            a[i] = -1;
            CHECK.due("draughts, number " + i + " below", LOST - 2, x.draughts(3, a[0], a[1], a[2], a[3]));
            a[i] = most[i] + 1;
            CHECK.due("draughts, number " + i + " above", LOST - 2, x.draughts(3, a[0], a[1], a[2], a[3]));
        }
    }

    /** Seed 1 draws A! . . D! . . Bd . and seed 0 draws . . F! Fc . first. */
    private static void week() {
        FurnitureCure x = Houses.withTwo();
        x.room(3, 0, 4);
        int[] ills = {12, 2, 0, 0, 0, 0, 0, 4};
        int[] well = {1, 1, 2, 2, 2, 2, 2, 1};
        int[] hours = {0, 1, 2, 2, 3, 4, 4, 5};
        for (int m = 1; m <= 8; m++) {
            CHECK.due("week(1, " + m + ", 0)", ills[m - 1], x.week(1, m, 0));
            CHECK.due("week(1, " + m + ", 1)", well[m - 1], x.week(1, m, 1));
            CHECK.due("week(1, " + m + ", 2)", hours[m - 1], x.week(1, m, 2));
        }
        Houses.act(x, "A!");
        CHECK.due("week(1, 2, 0) where A is sat in already", 2, x.week(1, 2, 0));
        x.piece(0, 0, 0, 0);
        x.piece(5, 10, 0, 0);
        CHECK.due("week(0, 5, 0) where F can not be walked", 5, x.week(0, 5, 0));
        // Seed 3 draws . . . . Ea Ac Dc . . . where E and D are not there.
        x.piece(0, 0, 0, 0);
        x.room(2, 2, 1);
        x.leave(5);
        CHECK.due("week(3, 7, 0) where A is walked to c", 0, x.week(3, 7, 0));
        CHECK.due("week(3, 10, 0) where A gets damp in c", 3, x.week(3, 10, 0));
        CHECK.due("week(3, 10, 1)", 1, x.week(3, 10, 1));
        CHECK.due("week(3, 10, 2)", 7, x.week(3, 10, 2));
        int[][] beside = {{-1, 1, 0}, {10000, 1, 0}, {0, 0, 0}, {0, 100, 0}, {0, 1, -1}, {0, 1, 3}};
        for (int[] b : beside) {
            CHECK.due("week(" + b[0] + ", " + b[1] + ", " + b[2] + ")", -2, x.week(b[0], b[1], b[2]));
        }
        Houses.act(x, Houses.repeat(".", 60));
        Houses.act(x, Houses.repeat(".", 38));
        CHECK.due("hours but one are gone", 98, x.told(2));
        CHECK.due("one hour can pass yet", 1, x.week(0, 3, 2));
    }

    private static void weekDoesNothing() {
        FurnitureCure x = Houses.withTwo();
        x.room(1, 0, 3);
        Houses.write(x, "A!");
        String before = Houses.seenWhole(x);
        for (int seed = 0; seed < 60; seed++) {
            x.week(seed * 97, 99, seed % 3);
        }
        CHECK.holds("a week does nothing in fact", before.equals(Houses.seenWhole(x)));
    }
}
