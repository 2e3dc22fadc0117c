/** The bounds of promises 10 to 15; ahead of each test stands the sentence of the document that names them. */
public final class CuresBoundsTest {
    private static final Check CHECK = new Check("CuresBoundsTest");
    private static final Bounds BUSY = new Bounds(CHECK, Houses::busy);
    private static final Bounds FAULTY = new Bounds(CHECK, () -> busyWith("C!A"));
    private static final Bounds IMPOSSIBLE = new Bounds(CHECK, () -> busyWith("C!.Fd"));
    private static final int UNKNOWN = -1, OUTSIDE = -2, NO = -5, NONE = -6;

    public static void main(String[] args) {
        judgeWhat();
        judgeWithFault();
        judgeEmptyAndFullPad();
        judgeNoSuchPiece();
        judgeInThatRoom();
        judgeSatIn();
        judgeLastHour();
        judgeLeastReason();
        doneEmptyAndFullPad();
        doneRefused();
        hourKeepsIllsWithin();
        hourAddsNervesTogether();
        hourOfEachTwo();
        hourOfWhoIsSatIn();
        behindPiece();
        behindWhat();
        behindRefused();
        behindEmptyAndFullPad();
        worseWhat();
        worseRefused();
        worseFirstHour();
        worseByOne();
        wellNoneAndAll();
        staysPiece();
        staysHours();
        staysNone();
        CHECK.end();
    }

    private static FurnitureCure busyWith(String cures) {
        FurnitureCure x = Houses.busy();
        Houses.write(x, cures);
        return x;
    }

    private static void judged(FurnitureCure x, String cures, int act, int why) {
        Houses.write(x, cures);
        CHECK.due("judge(0) of " + cures, act, x.judge(0));
        CHECK.due("judge(1) of " + cures, why, x.judge(1));
    }

    /** Promise 10: "the ACT (what = 0), why (1)"; "OUTSIDE; NO". */
    private static void judgeWhat() {
        BUSY.refusedBeside("judge(n)", (x, n) -> x.judge(n), 0, 1, OUTSIDE);
        BUSY.taken("judge(n)", (x, n) -> x.judge(n), 0, NONE);
        BUSY.taken("judge(n)", (x, n) -> x.judge(n), 1, NONE);
        IMPOSSIBLE.refusedBeside("judge(n) of what can not be", (x, n) -> x.judge(n), 0, 1, OUTSIDE);
        IMPOSSIBLE.taken("judge(n) of what can not be", (x, n) -> x.judge(n), 0, 2);
        IMPOSSIBLE.taken("judge(n) of what can not be", (x, n) -> x.judge(n), 1, 2);
        FAULTY.refusedBeside("judge(n) with a fault: outside ahead of no", (x, n) -> x.judge(n), 0, 1, OUTSIDE);
    }

    /** Promise 10: "NO: there is a FAULT", be it at the end, and be there an ACT ahead of it that can not be. */
    private static void judgeWithFault() {
        FAULTY.refused("judge(0) with a fault", (x, n) -> x.judge(n), 0, NO);
        FAULTY.refused("judge(1) with a fault", (x, n) -> x.judge(n), 1, NO);
        FurnitureCure x = Houses.withTwo();
        judged(x, "C!A", NO, NO);
        judged(x, "C!a", NO, NO);
        judged(x, Houses.repeat(".", 59) + "A", NO, NO);
        judged(x, "A", NO, NO);
    }

    /** Promise 10: "the first ACT (from 0 on) that can not be" on the empty pad, and on a full one. */
    private static void judgeEmptyAndFullPad() {
        judged(new FurnitureCure(), "", NONE, NONE);
        judged(Houses.busy(), "", NONE, NONE);
        judged(Houses.withTwo(), Houses.repeat(".", 60), NONE, NONE);
        judged(Houses.withTwo(), Houses.repeat(".", 58) + "Ab", NONE, NONE);
        judged(Houses.withTwo(), Houses.repeat(".", 58) + "Aa", 58, 2);
        judged(Houses.withTwo(), "Aa" + Houses.repeat(".", 58), 0, 2);
        judged(Houses.withTwo(), Houses.repeat("AbAa", 15), NONE, NONE);
        judged(Houses.withTwo(), Houses.repeat("AbAa", 14) + "AbAb", 29, 2);
    }

    /** "1 there is no such PIECE". */
    private static void judgeNoSuchPiece() {
        for (int piece = 0; piece < 6; piece++) {
            String letter = String.valueOf((char) ('A' + piece));
            FurnitureCure x = Houses.withAll(1, 1, 1);
            judged(x, letter + "b", NONE, NONE);
            judged(x, letter + "!", NONE, NONE);
            x.leave(piece);
            judged(x, letter + "b", 0, 1);
            judged(x, letter + "a", 0, 1);
            judged(x, letter + "!", 0, 1);
        }
    }

    /** "2 it is in that ROOM". */
    private static void judgeInThatRoom() {
        for (char from = 'a'; from <= 'd'; from++) {
            for (char to = 'a'; to <= 'd'; to++) {
                FurnitureCure x = Houses.withOne(5, 1, 1, 1);
                Houses.act(x, from == 'a' ? "" : "F" + from);
                CHECK.due("F's room", from - 'a', x.told(63));
                judged(x, "F" + to, from == to ? 0 : NONE, from == to ? 2 : NONE);
                judged(x, "F!", NONE, NONE);
            }
        }
    }

    /** "3 it is SAT in already (!), or now (walked)"; "nothing is SAT in then" (behind an hour). */
    private static void judgeSatIn() {
        FurnitureCure x = Houses.withTwo();
        judged(x, "A!A!", 1, 3);
        judged(x, "A!Ab", 1, 3);
        judged(x, "A!B!", NONE, NONE);
        judged(x, "A!Bb", NONE, NONE);
        judged(x, "A!.A!", NONE, NONE);
        judged(x, "A!.Ab", NONE, NONE);
        judged(x, "AbA!", NONE, NONE);
        Houses.act(x, "A!");
        judged(x, "A!", 0, 3);
        judged(x, "Ad", 0, 3);
        judged(x, ".A!", NONE, NONE);
    }

    /** "4 it is hour 99 (.)". */
    private static void judgeLastHour() {
        FurnitureCure x = Houses.withTwo();
        Houses.pass(x, 39);
        judged(x, Houses.repeat(".", 60), NONE, NONE);
        Houses.pass(x, 1);
        judged(x, Houses.repeat(".", 60), 59, 4);
        FurnitureCure y = Houses.withTwo();
        Houses.pass(y, 98);
        judged(y, ".", NONE, NONE);
        judged(y, "..", 1, 4);
        CHECK.due("the last hour is done", 1, Houses.act(y, "."));
        CHECK.due("it is hour 99", 99, y.told(2));
        judged(y, ".", 0, 4);
        judged(y, "A!Bd", NONE, NONE);
        judged(y, "A!Bd.", 2, 4);
        Houses.write(y, ".");
        CHECK.due("no hour is done at hour 99", NO, y.done());
        CHECK.due("behind no hour", NO, y.behind(0, 0));
        CHECK.due("worse behind no hour", NO, y.worse(0));
        CHECK.due("it is hour 99 still", 99, y.told(2));
    }

    /** "An ACT can not be for the least of these reasons". */
    private static void judgeLeastReason() {
        FurnitureCure x = Houses.withTwo();
        judged(x, "A!Aa", 1, 2);
        judged(x, "AcA!Ac", 2, 2);
        Houses.act(x, "A!");
        judged(x, "Aa", 0, 2);
        judged(x, "A!", 0, 3);
        x.leave(0);
        judged(x, "Aa", 0, 1);
        judged(x, "A!", 0, 1);
    }

    /** Promise 11: "(it is empty then ..): ACTS", of none and of as many as the pad holds. */
    private static void doneEmptyAndFullPad() {
        FurnitureCure x = Houses.withTwo();
        CHECK.due("done() of the empty pad", 0, x.done());
        CHECK.due("done() of one act", 1, Houses.act(x, "Ab"));
        CHECK.due("the pad is empty", 0, x.told(0));
        CHECK.due("done() again", 0, x.done());
        CHECK.due("done() of sixty acts", 60, Houses.act(x, Houses.repeat(".", 60)));
        CHECK.due("sixty hours", 60, x.told(2));
        CHECK.due("the pad is empty again", 0, x.told(0));
        CHECK.due("done() of thirty acts", 30, Houses.act(x, Houses.repeat("AaAb", 15)));
        CHECK.due("done() of none there", 0, new FurnitureCure().done());
        CHECK.due("an hour of none there", 1, Houses.act(new FurnitureCure(), "."));
        FurnitureCure y = Houses.withAll(1, 1, 1);
        CHECK.due("all six are sat in", 6, Houses.act(y, "A!B!C!D!E!F!"));
        CHECK.due("what is sat in stays so", 63, y.told(4));
    }

    /** Promise 11: "NO: there is a FAULT, or an ACT that can not be". */
    private static void doneRefused() {
        FAULTY.refused("done() with a fault", (x, n) -> x.done(), 0, NO);
        IMPOSSIBLE.refused("done() of what can not be", (x, n) -> x.done(), 0, NO);
        String[] cures = {"Cb", "CaCa", "A!", "Ac", "B!", "F", "..CaF", "x", "C!.FaFb.x", ".CaFaC!Cd",
            Houses.repeat(".", 59) + "A", Houses.repeat(".", 58) + "Fd"};
        for (String each : cures) {
            Bounds bounds = new Bounds(CHECK, () -> busyWith(each));
            bounds.refused("done() of " + each, (x, n) -> x.done(), 0, NO);
        }
    }

    /** An hour: "then 0 at least, 20 at most". */
    private static void hourKeepsIllsWithin() {
        int[][] cases = {{0, -1, 0}, {0, -5, 0}, {4, -5, 0}, {5, -5, 0}, {6, -5, 1}, {1, -1, 0}, {0, 0, 0}, {0, 1, 1},
            {0, 5, 5}, {14, 5, 19}, {15, 5, 20}, {16, 5, 20}, {20, 5, 20}, {20, 1, 20}, {19, 1, 20}, {20, 0, 20},
            {20, -1, 19}, {20, -5, 15}};
        for (int[] each : cases) {
            for (int room = 0; room < 4; room++) {
                for (int ill = 0; ill < 3; ill++) {
                    int[] ills = {7, 7, 7};
                    ills[ill] = each[0];
                    FurnitureCure x = Houses.withOne(5, ills[0], ills[1], ills[2]);
                    x.room(room, ill, each[1]);
                    Houses.act(x, room == 0 ? "." : "F" + (char) ('a' + room) + ".");
                    ills[ill] = each[2];
                    illsDue(x, "behind an hour of " + each[1] + " on " + each[0], ills);
                }
            }
        }
    }

    private static void illsDue(FurnitureCure x, String when, int[] ills) {
        for (int ill = 0; ill < 3; ill++) {
            CHECK.due("ill " + ill + " of F " + when, ills[ill], x.told(60 + ill));
        }
    }

    /** An hour: "of NERVES, too, by all that are with it, together; then 0 at least, 20 at most". */
    private static void hourAddsNervesTogether() {
        nervesDue(0, 5, new int[] {3, 3, 3, 3, 3}, 20);
        nervesDue(0, 4, new int[] {3, 3, 3, 3, 3}, 19);
        nervesDue(1, 5, new int[] {3, 3, 3, 3, 3}, 20);
        nervesDue(20, -5, new int[] {-3, -3, -3, -3, -3}, 0);
        nervesDue(20, -4, new int[] {-3, -3, -3, -3, -3}, 1);
        nervesDue(19, -5, new int[] {-3, -3, -3, -3, -3}, 0);
        nervesDue(20, 3, new int[] {0, -3, 0, 0, 0}, 20);
        nervesDue(20, 0, new int[] {3, -3, 0, 0, 0}, 20);
        nervesDue(0, 0, new int[] {-3, 0, 0, 0, 3}, 0);
        nervesDue(0, -3, new int[] {0, 0, 0, 0, 3}, 0);
        nervesDue(0, -2, new int[] {0, 0, 0, 0, 3}, 1);
        nervesDue(10, 0, new int[] {0, 0, 0, 0, 0}, 10);
    }

    /** F with all others in one room; and the same where they are in another one, or gone. */
    private static void nervesDue(int nerves, int does, int[] bad, int due) {
        FurnitureCure x = Houses.withAll(9, 9, 9);
        x.piece(5, 9, nerves, 9);
        x.room(0, 1, does);
        for (int other = 0; other < 5; other++) {
            x.bad(other, 5, bad[other]);
        }
        x.image(0);
        Houses.act(x, ".");
        illsDue(x, "behind an hour with all", new int[] {9, due, 9});
        x.restore(0);
        int alone = Math.min(20, Math.max(0, nerves + does));
        Houses.act(x, "AbBcCdDbEc.");
        illsDue(x, "behind an hour with none", new int[] {9, alone, 9});
        x.restore(0);
        for (int other = 0; other < 5; other++) {
            x.leave(other);
        }
        Houses.act(x, ".");
        illsDue(x, "behind an hour where all have left", new int[] {9, alone, 9});
    }

    /** An hour: "that one has so much more NERVES": each PIECE by each other one, and no third. */
    private static void hourOfEachTwo() {
        for (int piece = 0; piece < 6; piece++) {
            for (int other = 0; other < 6; other++) {
                FurnitureCure x = Houses.withAll(9, 9, 9);
                boolean refused = x.bad(piece, other, 3) == UNKNOWN;
                CHECK.due("bad for itself", piece == other ? 1 : 0, refused ? 1 : 0);
                Houses.act(x, ".");
                for (int each = 0; each < 6; each++) {
                    CHECK.due("nerves of " + each + " where " + piece + " is bad for " + other,
                            each == other && piece != other ? 12 : 9, x.told(11 + 10 * each));
                }
            }
        }
    }

    /** An hour: "if it was SAT in, 2 CREAKS less behind that (0 at least)". */
    private static void hourOfWhoIsSatIn() {
        int[][] cases = {{0, 0, 0}, {1, 0, 0}, {2, 0, 0}, {3, 0, 1}, {20, 0, 18}, {20, 5, 18}, {19, 1, 18}, {18, 5, 18},
            {15, 4, 17}, {0, 1, 0}, {0, 2, 0}, {0, 3, 1}, {0, 5, 3}, {5, -5, 0}, {6, -5, 0}, {7, -5, 0}, {8, -5, 1}};
        for (int[] each : cases) {
            FurnitureCure x = Houses.withOne(5, each[0], 9, 9);
            x.room(0, 0, each[1]);
            Houses.act(x, "F!.");
            illsDue(x, "sat in, behind an hour of " + each[1] + " on " + each[0], new int[] {each[2], 9, 9});
        }
        FurnitureCure x = Houses.withAll(20, 9, 9);
        Houses.act(x, "F!..");
        illsDue(x, "sat in for one hour of two", new int[] {18, 9, 9});
        CHECK.due("A was not sat in", 20, x.told(10));
    }

    /** Promise 12: "UNKNOWN" of a PIECE. */
    private static void behindPiece() {
        BUSY.refusedBeside("behind(n, 0)", (x, n) -> x.behind(n, 0), 0, 5, UNKNOWN);
        for (int absent : new int[] {1, 3, 4}) {
            BUSY.refused("behind(" + absent + ", 0)", (x, n) -> x.behind(n, 0), absent, UNKNOWN);
        }
        BUSY.taken("behind(n, 0)", (x, n) -> x.behind(n, 0), 0, 0);
        BUSY.taken("behind(n, 1)", (x, n) -> x.behind(n, 1), 0, 1);
        BUSY.taken("behind(n, 3)", (x, n) -> x.behind(n, 3), 2, 1);
        BUSY.taken("behind(n, 3)", (x, n) -> x.behind(n, 3), 5, 0);
    }

    /** Promise 12: "ILLS (0 to 2), the ROOM (3)"; "OUTSIDE". */
    private static void behindWhat() {
        BUSY.refusedBeside("behind(5, n)", (x, n) -> x.behind(5, n), 0, 3, OUTSIDE);
        BUSY.taken("behind(5, n)", (x, n) -> x.behind(5, n), 0, 20);
        BUSY.taken("behind(5, n)", (x, n) -> x.behind(5, n), 1, 20);
        BUSY.taken("behind(5, n)", (x, n) -> x.behind(5, n), 2, 18);
        BUSY.taken("behind(5, n)", (x, n) -> x.behind(5, n), 3, 0);
    }

    /** Promise 12: "UNKNOWN; OUTSIDE; NO, as of done()", the first that fits. */
    private static void behindRefused() {
        for (Bounds bounds : new Bounds[] {FAULTY, IMPOSSIBLE}) {
            for (int what = 0; what <= 3; what++) {
                bounds.refused("behind(0, " + what + ") of no cures", (x, n) -> x.behind(0, n), what, NO);
            }
            bounds.refused("behind(0, 4): outside ahead of no", (x, n) -> x.behind(0, n), 4, OUTSIDE);
            bounds.refused("behind(0, -1): outside ahead of no", (x, n) -> x.behind(0, n), -1, OUTSIDE);
            bounds.refused("behind(1, 0): unknown ahead of no", (x, n) -> x.behind(n, 0), 1, UNKNOWN);
            bounds.refused("behind(6, 0): unknown ahead of no", (x, n) -> x.behind(n, 0), 6, UNKNOWN);
            bounds.refused("behind(1, 4): unknown ahead of all", (x, n) -> x.behind(n, 4), 1, UNKNOWN);
        }
        BUSY.refused("behind(6, 4): unknown ahead of outside", (x, n) -> x.behind(n, 4), 6, UNKNOWN);
    }

    /** Promise 12: "not being DONE": the empty pad tells what is now, a full one what is behind all of it. */
    private static void behindEmptyAndFullPad() {
        FurnitureCure x = Houses.withOne(0, 20, 0, 19);
        x.room(0, 0, -1);
        x.room(0, 1, 1);
        CHECK.due("creaks behind nothing", 20, x.behind(0, 0));
        CHECK.due("nerves behind nothing", 0, x.behind(0, 1));
        Houses.write(x, Houses.repeat(".", 19));
        CHECK.due("creaks behind 19 hours", 1, x.behind(0, 0));
        CHECK.due("nerves behind 19 hours", 19, x.behind(0, 1));
        x.say('.');
        CHECK.due("creaks behind 20 hours", 0, x.behind(0, 0));
        Houses.write(x, Houses.repeat(".", 58) + "Ad");
        CHECK.due("nerves behind the full pad", 20, x.behind(0, 1));
        CHECK.due("damp behind the full pad", 19, x.behind(0, 2));
        CHECK.due("room behind the full pad", 3, x.behind(0, 3));
        CHECK.due("nothing is done", 20, x.told(10));
        CHECK.due("the pad stays full", 60, x.told(0));
    }

    private static void worsened(FurnitureCure x, String cures, int hour, int piece) {
        Houses.write(x, cures);
        CHECK.due("worse(0) of " + cures, hour, x.worse(0));
        CHECK.due("worse(1) of " + cures, piece, x.worse(1));
    }

    /** Promise 13: "the hour (what = 0), the PIECE (1)"; "OUTSIDE". */
    private static void worseWhat() {
        BUSY.refusedBeside("worse(n)", (x, n) -> x.worse(n), 0, 1, OUTSIDE);
        Bounds worse = new Bounds(CHECK, () -> busyWith(".Ca."));
        worse.refusedBeside("worse(n) where none is", (x, n) -> x.worse(n), 0, 1, OUTSIDE);
        worse.taken("worse(n) where none is", (x, n) -> x.worse(n), 0, NONE);
        worse.taken("worse(n) where none is", (x, n) -> x.worse(n), 1, NONE);
        FurnitureCure x = Houses.withAll(1, 1, 1);
        x.room(1, 0, 1);
        worsened(x, ".FbEb.", 1, 4);
    }

    /** Promise 13: "OUTSIDE; NO, likewise". */
    private static void worseRefused() {
        for (Bounds bounds : new Bounds[] {FAULTY, IMPOSSIBLE}) {
            bounds.refused("worse(0) of no cures", (x, n) -> x.worse(n), 0, NO);
            bounds.refused("worse(1) of no cures", (x, n) -> x.worse(n), 1, NO);
            bounds.refusedBeside("worse(n): outside ahead of no", (x, n) -> x.worse(n), 0, 1, OUTSIDE);
        }
    }

    /** Promise 13: "the first hour of CURES (0: the first one)"; "the least such PIECE; NONE". */
    private static void worseFirstHour() {
        FurnitureCure x = Houses.withAll(1, 1, 1);
        x.room(3, 2, 1);
        worsened(x, "", NONE, NONE);
        worsened(x, "Ad", NONE, NONE);
        worsened(x, Houses.repeat(".", 60), NONE, NONE);
        worsened(x, "Fd.", 0, 5);
        worsened(x, "AdFd.", 0, 0);
        worsened(x, Houses.repeat(".", 57) + "Fd.", 57, 5);
        worsened(x, Houses.repeat(".", 57) + ".Fd", NONE, NONE);
        Houses.pass(x, 1);
        worsened(x, ".Ed.Ad.", 1, 4);
        worsened(new FurnitureCure(), "..", NONE, NONE);
    }

    /** Promise 13: "has more ILLS together than ahead of it": as many are no more. */
    private static void worseByOne() {
        FurnitureCure x = Houses.withOne(2, 20, 0, 0);
        x.room(0, 0, -1);
        x.room(0, 1, 1);
        worsened(x, Houses.repeat(".", 60), NONE, NONE);
        x.piece(2, 19, 0, 0);
        worsened(x, Houses.repeat(".", 19), NONE, NONE);
        worsened(x, Houses.repeat(".", 20), 19, 2);
        FurnitureCure y = Houses.withOne(2, 18, 20, 20);
        y.room(0, 0, 2);
        y.room(0, 1, 5);
        worsened(y, "C!.", NONE, NONE);
        worsened(y, ".", 0, 2);
        y.room(0, 0, 1);
        worsened(y, "C!.", NONE, NONE);
        y.piece(2, 17, 20, 20);
        y.room(0, 0, 3);
        worsened(y, "C!.", 0, 2);
        y.piece(2, 20, 20, 20);
        worsened(y, "..", NONE, NONE);
    }

    /** Promise 14: "those without ILLS now, as bits": none there, none well, one, all. */
    private static void wellNoneAndAll() {
        CHECK.due("well() of none there", 0, new FurnitureCure().well());
        CHECK.due("well() of all six", 63, Houses.withAll(0, 0, 0).well());
        CHECK.due("well() of six with a creak", 0, Houses.withAll(1, 0, 0).well());
        CHECK.due("well() of six with a nerve", 0, Houses.withAll(0, 1, 0).well());
        CHECK.due("well() of six with damp", 0, Houses.withAll(0, 0, 1).well());
        CHECK.due("well() of six at the worst", 0, Houses.withAll(20, 20, 20).well());
        for (int piece = 0; piece < 6; piece++) {
            FurnitureCure x = Houses.withAll(0, 0, 0);
            x.piece(piece, 0, 0, 1);
            CHECK.due("well() but for " + piece, 63 & ~(1 << piece), x.well());
            x.leave(piece);
            CHECK.due("well() without " + piece, 63 & ~(1 << piece), x.well());
            CHECK.due("well() of " + piece + " by itself", 1 << piece, Houses.withOne(piece, 0, 0, 0).well());
        }
    }

    /** Promise 15: "UNKNOWN". */
    private static void staysPiece() {
        BUSY.refusedBeside("stays(n)", (x, n) -> x.stays(n), 0, 5, UNKNOWN);
        for (int absent : new int[] {1, 3, 4}) {
            BUSY.refused("stays(" + absent + ")", (x, n) -> x.stays(n), absent, UNKNOWN);
        }
        BUSY.taken("stays(n)", (x, n) -> x.stays(n), 0, 2);
        BUSY.taken("stays(n)", (x, n) -> x.stays(n), 2, 0);
        BUSY.taken("stays(n)", (x, n) -> x.stays(n), 5, NONE);
        for (int piece = 0; piece < 6; piece++) {
            CHECK.due("stays(" + piece + ") of none there", UNKNOWN, new FurnitureCure().stays(piece));
        }
    }

    /** "STAYS: the fewest hours (0 to 60)": an ILL of 20 that falls by 1 takes longest, and hour 99 does not end it. */
    private static void staysHours() {
        int[][] cases = {{0, -1, 0}, {1, -1, 1}, {1, -5, 1}, {5, -5, 1}, {6, -5, 2}, {19, -1, 19}, {20, -1, 20},
            {20, -2, 10}, {19, -2, 10}, {18, -2, 9}, {20, -3, 7}, {20, -4, 5}, {20, -5, 4}, {16, -5, 4}, {15, -5, 3}};
        for (int[] each : cases) {
            for (int ill = 0; ill < 3; ill++) {
                FurnitureCure x = Houses.withOne(5, ill == 0 ? each[0] : 0, ill == 1 ? each[0] : 0,
                        ill == 2 ? each[0] : 0);
                x.room(0, ill, each[1]);
                CHECK.due("stays(5) with " + each[0] + " of " + ill + " by " + each[1], each[2], x.stays(5));
            }
        }
        FurnitureCure x = Houses.withOne(5, 0, 0, 0);
        Houses.pass(x, 99);
        x.piece(5, 20, 20, 20);
        x.room(0, 0, -1);
        x.room(0, 1, -1);
        x.room(0, 2, -1);
        CHECK.due("stays(5) at hour 99", 20, x.stays(5));
    }

    /** "STAYS: .. behind which a PIECE is WELL, all staying as they are (nothing being SAT in); NONE". */
    private static void staysNone() {
        FurnitureCure x = Houses.withOne(1, 2, 0, 0);
        CHECK.due("stays(1) where nothing helps", NONE, x.stays(1));
        Houses.act(x, "B!");
        CHECK.due("stays(1) sat in", NONE, x.stays(1));
        x.room(0, 0, -1);
        CHECK.due("stays(1) sat in, where its room helps", 2, x.stays(1));
        x.room(0, 1, 1);
        CHECK.due("stays(1) where nerves come", NONE, x.stays(1));
        x.bad(0, 1, -1);
        CHECK.due("stays(1) where who helps is not there", NONE, x.stays(1));
        x.piece(0, 0, 0, 0);
        CHECK.due("stays(1) where who helps is there", 2, x.stays(1));
        CHECK.due("stays(0), being well now, where nerves come", 0, x.stays(0));
        Houses.act(x, "Ab");
        CHECK.due("stays(1) where who helps is elsewhere", NONE, x.stays(1));
    }
}
