/** The bounds of promises 29 to 31; ahead of each test stands the sentence of the document that names them. */
public final class ImagesBoundsTest {
    private static final Check CHECK = new Check("ImagesBoundsTest");
    private static final Bounds BUSY = new Bounds(CHECK, Houses::busy);
    private static final int OUTSIDE = -2, STATE = -3, FULL = -4, NONE = -6;

    public static void main(String[] args) {
        imageOfTwo();
        imageOfNothingAndOfAll();
        imageOfAllSights();
        imageKeepsNoPad();
        imageOverImage();
        restoreOfTwo();
        restoreWhatWasNotKept();
        toldEach();
        toldOfNone();
        toldLeastAndMost();
        CHECK.end();
    }

    /** Promise 29: "an IMAGE (0, 1): 1. OUTSIDE". */
    private static void imageOfTwo() {
        BUSY.refusedBeside("image(n)", (x, n) -> x.image(n), 0, 1, OUTSIDE);
        BUSY.taken("image(n)", (x, n) -> x.image(n), 0, 1);
        BUSY.taken("image(n)", (x, n) -> x.image(n), 1, 1);
        BUSY.taken("image(n) twice", (x, n) -> x.image(n) + x.image(n), 1, 2);
    }

    /** Promise 30: "It is as it was when it was kept", be it new, or full of all that there can be. */
    private static void imageOfNothingAndOfAll() {
        FurnitureCure x = new FurnitureCure();
        String empty = Houses.seenWhole(x);
        x.image(0);
        fill(x);
        String full = Houses.seenWhole(x);
        x.image(1);
        CHECK.due("restore(0)", 1, x.restore(0));
        CHECK.holds("it is as new", empty.equals(Houses.seenWhole(x)));
        CHECK.due("restore(1)", 1, x.restore(1));
        CHECK.holds("it is as full as it was", full.equals(Houses.seenWhole(x)));
    }

    private static void fill(FurnitureCure x) {
        for (int piece = 0; piece < 6; piece++) {
            x.piece(piece, 20, 20, 20);
            x.guest(piece, 63);
            for (int other = 0; other < 6; other++) {
                x.bad(piece, other, 3);
            }
        }
        for (int place = 0; place < 12; place++) {
            x.room(place / 3, place % 3, 5);
        }
        for (int count = 0; count < 8; count++) {
            x.seen(20, 9, 20);
        }
        Houses.act(x, "AdBdCdDdEdFd.A!B!C!D!E!F!");
    }

    /** Promise 30: "It is as it was": of 8 SIGHTS each one, the last one, too. */
    private static void imageOfAllSights() {
        for (int odd = 0; odd < 8; odd++) {
            FurnitureCure x = new FurnitureCure();
            for (int count = 0; count < 8; count++) {
                x.seen(count == odd ? 17 : 20, count == odd ? 1 : 2, 20);
            }
            x.image(0);
            x.forget();
            // Others come between, so that none of the first ones is left where it stood.
            for (int count = 0; count < 8; count++) {
                x.seen(10, 9, 0);
            }
            CHECK.due("-5 to -2 fit in between", 4, x.does(-1));
            x.restore(0);
            CHECK.due("sights", 8, x.told(3));
            CHECK.due("3, 4 and 5 fit again, by sight " + odd, 3, x.does(-1));
            CHECK.due("3 is the least, by sight " + odd, 13, x.does(0));
        }
    }

    /** Promise 29: "All but the PAD is kept": an empty pad stays empty, a full one full. */
    private static void imageKeepsNoPad() {
        FurnitureCure x = Houses.withTwo();
        Houses.write(x, Houses.repeat(".", 60));
        x.image(0);
        CHECK.due("signs behind image()", 60, x.told(0));
        x.wipe();
        x.restore(0);
        CHECK.due("the empty pad stays empty", 0, x.told(0));
        x.image(1);
        Houses.write(x, Houses.repeat(".", 58) + "Ab");
        x.restore(1);
        CHECK.due("the full pad stays full", 60, x.told(0));
        CHECK.due("and takes no more", FULL, x.say('.'));
        CHECK.due("and has its text", 1, x.behind(0, 3));
        CHECK.due("which has no fault", NONE, x.fault());
    }

    /** Promise 29: "is kept in an IMAGE": what was in it goes, the other one stays. */
    private static void imageOverImage() {
        FurnitureCure x = new FurnitureCure();
        x.image(0);
        x.piece(0, 1, 1, 1);
        x.image(1);
        x.piece(1, 1, 1, 1);
        x.image(0);
        x.piece(2, 1, 1, 1);
        CHECK.due("restore(1)", 1, x.restore(1));
        CHECK.due("the other one stays", 1, x.told(1));
        CHECK.due("restore(0)", 1, x.restore(0));
        CHECK.due("the newer one was kept", 3, x.told(1));
        x.leave(0);
        x.leave(1);
        CHECK.due("restore(0) once more", 1, x.restore(0));
        CHECK.due("what is done since does not touch it", 3, x.told(1));
    }

    /** Promise 30: "OUTSIDE; STATE". */
    private static void restoreOfTwo() {
        BUSY.refusedBeside("restore(n)", (x, n) -> x.restore(n), 0, 1, OUTSIDE);
        BUSY.taken("restore(n)", (x, n) -> x.restore(n), 0, 1);
        BUSY.taken("restore(n) behind image(n)", (x, n) -> x.image(n) + x.restore(n), 1, 2);
    }

    /** Promise 30: "STATE: it was not". */
    private static void restoreWhatWasNotKept() {
        BUSY.refused("restore(1)", (x, n) -> x.restore(n), 1, STATE);
        Bounds fresh = new Bounds(CHECK, FurnitureCure::new);
        fresh.refused("restore(0) of a new object", (x, n) -> x.restore(n), 0, STATE);
        fresh.refused("restore(1) of a new object", (x, n) -> x.restore(n), 1, STATE);
        fresh.refusedBeside("restore(n) of a new object", (x, n) -> x.restore(n), 0, 1, OUTSIDE);
        FurnitureCure x = new FurnitureCure();
        x.image(1);
        CHECK.due("restore(0) where 1 was kept", STATE, x.restore(0));
        CHECK.due("restore(1) where 1 was kept", 1, x.restore(1));
    }

    /** A house in which each number differs from its neighbours. */
    private static FurnitureCure various() {
        FurnitureCure x = new FurnitureCure();
        for (int piece = 0; piece < 6; piece++) {
            x.piece(piece, piece, 6 + piece, 12 + piece);
            x.guest(piece, 8 * piece + 1);
            for (int other = 0; other < 6; other++) {
                x.bad(piece, other, badOf(piece, other));
            }
        }
        Houses.act(x, "..BbCcDdFbA!F!");
        for (int place = 0; place < 12; place++) {
            x.room(place / 3, place % 3, place % 11 - 5);
        }
        x.seen(1, 1, 1);
        x.seen(1, 1, 1);
        x.seen(1, 1, 1);
        Houses.write(x, "A.x");
        return x;
    }

    private static int badOf(int piece, int other) {
        return (piece + 2 * other) % 7 - 3;
    }

    /** What told() answers in that house; nerves are told apart, since two hours have passed. */
    private static int dueOf(int what) {
        int[] counts = {3, 63, 2, 3, 33};
        int[] roomsOf = {0, 1, 2, 3, 0, 1};
        if (what >= 0 && what <= 4) {
            return counts[what];
        }
        for (int i = 0; i < 6; i++) {
            if (what == 10 * (1 + i)) {
                return i;
            }
            if (what == 10 * (1 + i) + 2) {
                return 12 + i;
            }
            if (what == 10 * (1 + i) + 3) {
                return roomsOf[i];
            }
            if (what == 600 + i) {
                return 8 * i + 1;
            }
            for (int j = 0; j < 6; j++) {
                if (i < 4 && j < 3 && what == 100 * (1 + i) + j) {
                    return (3 * i + j) % 11 + 5;
                }
                if (i != j && what == 500 + 6 * i + j) {
                    return badOf(i, j) + 10;
                }
            }
        }
        return OUTSIDE;
    }

    private static boolean ofNerves(int what) {
        return what >= 11 && what <= 61 && what % 10 == 1;
    }

    /** Promise 31: every number that is told, and every one between, below and above them. */
    private static void toldEach() {
        FurnitureCure x = null;
        for (int what = -700; what <= 1400; what++) {
            if (x == null || what % 200 == 0) {
                x = various();
            }
            if (!ofNerves(what)) {
                CHECK.due("told(" + what + ")", dueOf(what), x.told(what));
            }
        }
        FurnitureCure y = Houses.withAll(0, 0, 0);
        for (int piece = 0; piece < 6; piece++) {
            y.piece(piece, 1, 7 + piece, 2);
            CHECK.due("nerves of " + piece, 7 + piece, y.told(11 + 10 * piece));
        }
    }

    /** Promise 31: "a PIECE that is there", else "OUTSIDE". */
    private static void toldOfNone() {
        for (int absent = 0; absent < 6; absent++) {
            FurnitureCure x = Houses.withAll(1, 1, 1);
            x.leave(absent);
            for (int piece = 0; piece < 6; piece++) {
                for (int what = 0; what <= 4; what++) {
                    int due = what == 3 ? 0 : 1;
                    CHECK.due("told(" + (10 * (1 + piece) + what) + ") without " + absent,
                            piece == absent || what == 4 ? OUTSIDE : due, x.told(10 * (1 + piece) + what));
                }
            }
        }
    }

    /** Promise 31: "OUTSIDE", far away, too, and nothing changes. */
    private static void toldLeastAndMost() {
        for (int what : new int[] {-1, 5, 9, 14, 20, 23, 64, 70, 99, 103, 403, 499, 500, 507, 535, 536, 599, 606,
            Integer.MIN_VALUE, Integer.MIN_VALUE + 1, Integer.MAX_VALUE - 1, Integer.MAX_VALUE, -2147483048,
            65536, 65546, 256, 266}) {
            BUSY.refused("told(" + what + ")", (x, n) -> x.told(n), what, OUTSIDE);
        }
        BUSY.taken("told(n)", (x, n) -> x.told(n), 0, 5);
        BUSY.taken("told(n)", (x, n) -> x.told(n), 4, 1);
        BUSY.taken("told(n)", (x, n) -> x.told(n), 10, 2);
        BUSY.taken("told(n)", (x, n) -> x.told(n), 63, 3);
        BUSY.taken("told(n)", (x, n) -> x.told(n), 100, 9);
        BUSY.taken("told(n)", (x, n) -> x.told(n), 402, 10);
        BUSY.taken("told(n)", (x, n) -> x.told(n), 501, 10);
        BUSY.taken("told(n)", (x, n) -> x.told(n), 534, 10);
        BUSY.taken("told(n)", (x, n) -> x.told(n), 600, 33);
        BUSY.taken("told(n)", (x, n) -> x.told(n), 605, 4);
    }
}
