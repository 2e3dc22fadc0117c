/** The bounds of promises 1 to 9; ahead of each test stands the sentence of the document that names them. */
public final class PiecesBoundsTest {
    private static final Check CHECK = new Check("PiecesBoundsTest");
    private static final Bounds BUSY = new Bounds(CHECK, Houses::busy);
    private static final int UNKNOWN = -1, OUTSIDE = -2, FULL = -4, NONE = -6;

    public static void main(String[] args) {
        nothingIsThere();
        roomsDoNothing();
        pieceOfSix();
        pieceIlls();
        pieceCounts();
        pieceAnew();
        leaveOfSix();
        leaveOfWhoIsSatIn();
        leaveCounts();
        roomOfFour();
        roomIll();
        roomDoes();
        badPieces();
        badForItself();
        badBy();
        guestOfSix();
        guestLikes();
        sayCodes();
        sayUntilFull();
        wipeEmptyAndFull();
        faultOfFirstSign();
        faultOfSecondSign();
        faultOfEmptyAndFullPad();
        faultWhereMoreMustCome();
        CHECK.end();
    }

    /** Promise 1: "Nothing is there". */
    private static void nothingIsThere() {
        FurnitureCure x = new FurnitureCure();
        CHECK.due("new: signs", 0, x.told(0));
        CHECK.due("new: pieces", 0, x.told(1));
        CHECK.due("new: hour", 0, x.told(2));
        CHECK.due("new: sights", 0, x.told(3));
        CHECK.due("new: sat in", 0, x.told(4));
        for (int piece = 0; piece < 6; piece++) {
            CHECK.due("new: told of a piece", OUTSIDE, x.told(10 + 10 * piece));
            CHECK.due("new: leave(" + piece + ")", UNKNOWN, x.leave(piece));
            CHECK.due("new: told of a guest", 0, x.told(600 + piece));
            CHECK.due("new: seats(" + piece + ")", NONE, x.seats(piece));
            CHECK.due("new: does(" + piece + ")", 5 + piece, x.does(piece));
        }
        for (int n = 0; n < 2; n++) {
            CHECK.due("new: restore(" + n + ")", -3, x.restore(n));
        }
    }

    /** Promise 1: "rooms do nothing" (0 at first), nor is a piece BAD for another one (0 at first). */
    private static void roomsDoNothing() {
        FurnitureCure x = Houses.withAll(0, 20, 10);
        Houses.act(x, "BbCcDdEbFc.");
        for (int piece = 0; piece < 6; piece++) {
            CHECK.due("a new room: creaks of " + piece, 0, x.told(10 + 10 * piece));
            CHECK.due("a new room: nerves of " + piece, 20, x.told(11 + 10 * piece));
            CHECK.due("a new room: damp of " + piece, 10, x.told(12 + 10 * piece));
        }
        for (int room = 0; room < 4; room++) {
            for (int ill = 0; ill < 3; ill++) {
                CHECK.due("a new room " + room + " does 0 to " + ill, 10, x.room(room, ill, 0));
            }
        }
        for (int pair = 0; pair < 36; pair++) {
            if (pair / 6 != pair % 6) {
                CHECK.due("a new piece is bad by 0", 10, x.bad(pair / 6, pair % 6, 0));
            }
        }
    }

    /** Promise 2: PIECES 0 to 5; "UNKNOWN". */
    private static void pieceOfSix() {
        Bounds.Ask ask = (x, n) -> x.piece(n, 1, 2, 3);
        BUSY.refusedBeside("piece(n, 1, 2, 3)", ask, 0, 5, UNKNOWN);
        BUSY.taken("piece(n, 1, 2, 3)", ask, 0, 3);
        BUSY.taken("piece(n, 1, 2, 3)", ask, 1, 4);
        BUSY.taken("piece(n, 1, 2, 3)", ask, 4, 4);
        BUSY.taken("piece(n, 1, 2, 3)", ask, 5, 3);
        BUSY.refused("piece(6, 21, 0, 0): unknown ahead of outside", (x, n) -> x.piece(n, 21, 0, 0), 6, UNKNOWN);
        BUSY.refused("piece(-1, 0, 0, -1): unknown ahead of outside", (x, n) -> x.piece(n, 0, 0, -1), -1, UNKNOWN);
    }

    /** Promise 2: ILLS "0 to 20 each"; "OUTSIDE". */
    private static void pieceIlls() {
        BUSY.refusedBeside("piece(1, n, 0, 0)", (x, n) -> x.piece(1, n, 0, 0), 0, 20, OUTSIDE);
        BUSY.refusedBeside("piece(1, 20, n, 20)", (x, n) -> x.piece(1, 20, n, 20), 0, 20, OUTSIDE);
        BUSY.refusedBeside("piece(0, 0, 0, n)", (x, n) -> x.piece(0, 0, 0, n), 0, 20, OUTSIDE);
        for (int v = 0; v <= 20; v += 20) {
            FurnitureCure x = new FurnitureCure();
            CHECK.due("piece(0, v, 1, 1)", 1, x.piece(0, v, 1, 1));
            CHECK.due("piece(1, 1, v, 1)", 2, x.piece(1, 1, v, 1));
            CHECK.due("piece(2, 1, 1, v)", 3, x.piece(2, 1, 1, v));
            for (int piece = 0; piece < 3; piece++) {
                for (int ill = 0; ill < 3; ill++) {
                    CHECK.due("ill " + ill + " of " + piece, piece == ill ? v : 1, x.told(10 + 10 * piece + ill));
                }
            }
        }
    }

    /** Promise 2: "how many are", from one to all six. */
    private static void pieceCounts() {
        FurnitureCure x = new FurnitureCure();
        for (int piece = 5; piece >= 0; piece--) {
            CHECK.due("piece(" + piece + ")", 6 - piece, x.piece(piece, 0, 0, 0));
        }
        CHECK.due("all are there", 63, x.told(1));
        CHECK.due("one of six anew", 6, x.piece(5, 0, 0, 0));
        CHECK.due("all are there still", 63, x.told(1));
    }

    /** Promise 2: "(or anew), in ROOM 0". */
    private static void pieceAnew() {
        FurnitureCure x = Houses.withOne(5, 1, 1, 1);
        Houses.act(x, "Fd");
        CHECK.due("F's room ahead", 3, x.told(63));
        CHECK.due("F anew", 1, x.piece(5, 20, 20, 20));
        CHECK.due("F's room anew", 0, x.told(63));
        Houses.act(x, "Fd");
        x.leave(5);
        CHECK.due("F comes back", 1, x.piece(5, 0, 0, 0));
        CHECK.due("F's room when it comes back", 0, x.told(63));
    }

    /** Promise 3: PIECES 0 to 5; "UNKNOWN: it was not". */
    private static void leaveOfSix() {
        BUSY.refusedBeside("leave(n)", (x, n) -> x.leave(n), 0, 5, UNKNOWN);
        for (int absent : new int[] {1, 3, 4}) {
            BUSY.refused("leave(" + absent + ")", (x, n) -> x.leave(n), absent, UNKNOWN);
        }
        BUSY.taken("leave(n)", (x, n) -> x.leave(n), 0, 2);
        BUSY.taken("leave(n)", (x, n) -> x.leave(n), 5, 2);
        BUSY.taken("leave(n) twice", (x, n) -> x.leave(n) + 100 * x.leave(n), 0, 2 - 100);
    }

    /** Promises 2 and 3: who goes home, or comes anew, is not SAT in; all others are, as they were. */
    private static void leaveOfWhoIsSatIn() {
        for (int piece = 0; piece < 6; piece++) {
            FurnitureCure x = Houses.withAll(1, 1, 1);
            Houses.act(x, "A!B!C!D!E!F!");
            x.image(0);
            x.piece(piece, 1, 1, 1);
            CHECK.due("sat in where " + piece + " comes anew", 63 & ~(1 << piece), x.told(4));
            x.restore(0);
            x.leave(piece);
            CHECK.due("sat in where " + piece + " goes home", 63 & ~(1 << piece), x.told(4));
            x.piece(piece, 1, 1, 1);
            CHECK.due("sat in where " + piece + " comes back", 63 & ~(1 << piece), x.told(4));
        }
    }

    /** Promise 3: "how many are there", from five to none. */
    private static void leaveCounts() {
        FurnitureCure x = Houses.withAll(1, 1, 1);
        for (int piece = 0; piece < 6; piece++) {
            CHECK.due("leave(" + piece + ")", 5 - piece, x.leave(piece));
            CHECK.due("who is there behind it", 63 & ~((2 << piece) - 1), x.told(1));
        }
        for (int piece = 0; piece < 6; piece++) {
            CHECK.due("leave(" + piece + ") of none", UNKNOWN, x.leave(piece));
        }
    }

    /** Promise 4: ROOMS 0 to 3; "UNKNOWN". */
    private static void roomOfFour() {
        Bounds.Ask ask = (x, n) -> x.room(n, 1, 0);
        BUSY.refusedBeside("room(n, 1, 0)", ask, 0, 3, UNKNOWN);
        BUSY.taken("room(n, 1, 0)", ask, 0, 8);
        BUSY.taken("room(n, 1, 0)", ask, 3, 12);
        BUSY.refused("room(4, 3, 0): unknown ahead of outside", (x, n) -> x.room(n, 3, 0), 4, UNKNOWN);
        BUSY.refused("room(-1, 0, 6): unknown ahead of outside", (x, n) -> x.room(n, 0, 6), -1, UNKNOWN);
    }

    /** Promise 4: "an ILL (0 to 2)"; "OUTSIDE". */
    private static void roomIll() {
        Bounds.Ask ask = (x, n) -> x.room(0, n, 0);
        BUSY.refusedBeside("room(0, n, 0)", ask, 0, 2, OUTSIDE);
        BUSY.refusedBeside("room(3, n, 5)", (x, n) -> x.room(3, n, 5), 0, 2, OUTSIDE);
        BUSY.taken("room(0, n, 0)", ask, 0, 9);
        BUSY.taken("room(0, n, 0)", ask, 2, 5);
    }

    /** Promise 4: "A ROOM DOES something to each ILL in an hour (-5 to 5 more)"; "what it did, and 10". */
    private static void roomDoes() {
        BUSY.refusedBeside("room(0, 0, n)", (x, n) -> x.room(0, 0, n), -5, 5, OUTSIDE);
        for (int place = 0; place < 12; place++) {
            FurnitureCure x = new FurnitureCure();
            for (int v = -5; v <= 5; v++) {
                CHECK.due("room with " + v, v == -5 ? 10 : 9 + v, x.room(place / 3, place % 3, v));
                CHECK.due("told of it", 10 + v, x.told(100 + place / 3 * 100 + place % 3));
            }
            CHECK.due("room behind 5", 15, x.room(place / 3, place % 3, 0));
            for (int other = 0; other < 12; other++) {
                CHECK.due("no other is touched", 10, x.told(100 + other / 3 * 100 + other % 3));
            }
        }
    }

    /** Promise 5: "(be they there or not)"; "UNKNOWN: both". */
    private static void badPieces() {
        BUSY.refusedBeside("bad(n, 1, 0)", (x, n) -> x.bad(n, 1, 0), 0, 5, UNKNOWN);
        BUSY.refusedBeside("bad(1, n, 0)", (x, n) -> x.bad(1, n, 0), 0, 5, UNKNOWN);
        BUSY.refused("bad(6, 0, 4): unknown ahead of outside", (x, n) -> x.bad(n, 0, 4), 6, UNKNOWN);
        BUSY.refused("bad(0, -1, -4): unknown ahead of outside", (x, n) -> x.bad(0, n, -4), -1, UNKNOWN);
        BUSY.refused("bad(6, 6, 0)", (x, n) -> x.bad(n, n, 0), 6, UNKNOWN);
        FurnitureCure x = new FurnitureCure();
        CHECK.due("bad(0, 5, 1) of none there", 10, x.bad(0, 5, 1));
        CHECK.due("bad(5, 0, 2) of none there", 10, x.bad(5, 0, 2));
        CHECK.due("bad(0, 5, 0) again", 11, x.bad(0, 5, 0));
        CHECK.due("bad(5, 0, 0) again", 12, x.bad(5, 0, 0));
    }

    /** Promise 5: "UNKNOWN: .. also one" and the same. */
    private static void badForItself() {
        for (int piece = 0; piece < 6; piece++) {
            BUSY.refused("bad of " + piece + " for itself", (x, n) -> x.bad(n, n, 0), piece, UNKNOWN);
            BUSY.refused("bad of " + piece + " for itself by 4", (x, n) -> x.bad(n, n, 4), piece, UNKNOWN);
        }
    }

    /** Promise 5: "A PIECE is BAD for another one by so much (-3 to 3)"; "how it was, and 10". */
    private static void badBy() {
        BUSY.refusedBeside("bad(0, 2, n)", (x, n) -> x.bad(0, 2, n), -3, 3, OUTSIDE);
        for (int pair = 0; pair < 36; pair++) {
            if (pair / 6 == pair % 6) {
                continue;
            }
            FurnitureCure x = new FurnitureCure();
            for (int v = -3; v <= 3; v++) {
                CHECK.due("bad by " + v, v == -3 ? 10 : 9 + v, x.bad(pair / 6, pair % 6, v));
                CHECK.due("told of it", 10 + v, x.told(500 + pair));
            }
            CHECK.due("bad behind 3", 13, x.bad(pair / 6, pair % 6, 0));
        }
    }

    /** Promise 6: GUESTS 0 to 5; "UNKNOWN". */
    private static void guestOfSix() {
        Bounds.Ask ask = (x, n) -> x.guest(n, 1);
        BUSY.refusedBeside("guest(n, 1)", ask, 0, 5, UNKNOWN);
        BUSY.taken("guest(n, 1)", ask, 0, 33);
        BUSY.taken("guest(n, 1)", ask, 5, 4);
        BUSY.refused("guest(6, 64): unknown ahead of outside", (x, n) -> x.guest(n, 64), 6, UNKNOWN);
        BUSY.refused("guest(-1, -1): unknown ahead of outside", (x, n) -> x.guest(n, -1), -1, UNKNOWN);
    }

    /** Promise 6: "PIECES that a GUEST likes" (bits of six; none at first); "OUTSIDE". */
    private static void guestLikes() {
        BUSY.refusedBeside("guest(0, n)", (x, n) -> x.guest(0, n), 0, 63, OUTSIDE);
        for (int guest = 0; guest < 6; guest++) {
            FurnitureCure x = new FurnitureCure();
            CHECK.due("he likes none at first", 0, x.guest(guest, 63));
            CHECK.due("he likes all", 63, x.guest(guest, 0));
            CHECK.due("he likes none", 0, x.guest(guest, 32));
            CHECK.due("he likes F", 32, x.told(600 + guest));
        }
    }

    /** Promise 7: "codes 33 to 126"; "OUTSIDE". */
    private static void sayCodes() {
        BUSY.refusedBeside("say(n)", (x, n) -> x.say(n), 33, 126, OUTSIDE);
        for (int sign : new int[] {0, 10, 32, 127, 128, 160, 255}) {
            BUSY.refused("say(" + sign + ")", (x, n) -> x.say(n), sign, OUTSIDE);
        }
        for (int sign = 33; sign <= 126; sign++) {
            BUSY.taken("say(n)", (x, n) -> x.say(n), sign, 6);
        }
    }

    /** Promise 7: "60 SIGNS at most"; "OUTSIDE; FULL". */
    private static void sayUntilFull() {
        FurnitureCure x = new FurnitureCure();
        for (int count = 1; count <= 60; count++) {
            CHECK.due("sign " + count, count, x.say('.'));
        }
        CHECK.due("sign 61", FULL, x.say('.'));
        CHECK.due("sign 61 again", FULL, x.say('.'));
        Bounds full = new Bounds(CHECK, PiecesBoundsTest::busyWithFullPad);
        full.refused("say on a full pad", (y, n) -> y.say(n), '.', FULL);
        full.refused("say(33) on a full pad", (y, n) -> y.say(n), 33, FULL);
        full.refused("say(126) on a full pad", (y, n) -> y.say(n), 126, FULL);
        full.refusedBeside("say(n) on a full pad: outside ahead of full", (y, n) -> y.say(n), 33, 126, OUTSIDE);
    }

    private static FurnitureCure busyWithFullPad() {
        FurnitureCure x = Houses.busy();
        Houses.write(x, Houses.repeat(".", 58) + "Fa");
        return x;
    }

    /** Promise 8: "Signs go: how many there were", of the empty pad, of one, of the full one. */
    private static void wipeEmptyAndFull() {
        FurnitureCure x = new FurnitureCure();
        CHECK.due("wipe() of a new pad", 0, x.wipe());
        x.say('~');
        CHECK.due("wipe() of one sign", 1, x.wipe());
        CHECK.due("wipe() again", 0, x.wipe());
        for (int count = 0; count < 61; count++) {
            x.say('~');
        }
        CHECK.due("wipe() of the full pad", 60, x.wipe());
        CHECK.due("no fault is left", NONE, x.fault());
        CHECK.due("there is place again", 1, x.say('.'));
        CHECK.due("signs", 1, x.told(0));
    }

    /** Promise 9: "the first sign that can not stand there": of an ACT the first one is A to F, or a dot. */
    private static void faultOfFirstSign() {
        for (int sign = 33; sign <= 126; sign++) {
            boolean piece = sign >= 65 && sign <= 70;
            for (int ahead = 0; ahead <= 2; ahead++) {
                FurnitureCure x = new FurnitureCure();
                Houses.write(x, new String[] {"", ".", "Ad"}[ahead]);
                x.say(sign);
                CHECK.due("fault with " + sign + " for the first sign behind " + ahead,
                        piece ? ahead + 1 : sign == 46 ? NONE : ahead, x.fault());
            }
        }
    }

    /** Promise 9: behind a PIECE's letter stands a to d, or an exclamation mark. */
    private static void faultOfSecondSign() {
        for (int sign = 33; sign <= 126; sign++) {
            boolean aim = sign >= 97 && sign <= 100 || sign == 33;
            for (int piece = 'A'; piece <= 'F'; piece += 5) {
                FurnitureCure x = new FurnitureCure();
                x.say(piece);
                x.say(sign);
                CHECK.due("fault with " + sign + " for the second sign", aim ? NONE : 1, x.fault());
            }
        }
    }

    /** Promise 9: "the place (from 0 on)"; "NONE". */
    private static void faultOfEmptyAndFullPad() {
        FurnitureCure x = new FurnitureCure();
        CHECK.due("fault() of the empty pad", NONE, x.fault());
        Houses.write(x, Houses.repeat(".", 60));
        CHECK.due("fault() of the full pad", NONE, x.fault());
        Houses.write(x, Houses.repeat("A!", 30));
        CHECK.due("fault() of thirty acts", NONE, x.fault());
        Houses.write(x, "a" + Houses.repeat(".", 59));
        CHECK.due("fault() at the first place", 0, x.fault());
        Houses.write(x, Houses.repeat(".", 59) + "a");
        CHECK.due("fault() at the last place", 59, x.fault());
        Houses.write(x, Houses.repeat(".", 58) + "Ae");
        CHECK.due("fault() of the last act's end", 59, x.fault());
        Houses.write(x, Houses.repeat(".", 58) + "Fd");
        CHECK.due("fault() where the last act is whole", NONE, x.fault());
        Houses.write(x, "AAe");
        CHECK.due("the first of several", 1, x.fault());
    }

    /** Promise 9: "the number of signs, if more must come". */
    private static void faultWhereMoreMustCome() {
        FurnitureCure x = new FurnitureCure();
        for (int signs : new int[] {1, 2, 3, 59, 60}) {
            Houses.write(x, Houses.repeat(".", signs - 1) + "F");
            CHECK.due("fault() of " + signs + " signs, the last a letter", signs, x.fault());
        }
    }
}
