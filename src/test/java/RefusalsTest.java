/** "Calls that are refused answer, the first of these that fits .. They change nothing." And what no call may do. */
public final class RefusalsTest {
    private static final Check CHECK = new Check("RefusalsTest");
    private static final int UNKNOWN = -1, OUTSIDE = -2, STATE = -3, FULL = -4, NO = -5, NONE = -6;
    private static final long LOST = -1000000000000000000L;

    public static void main(String[] args) {
        numbersOfRefusals();
        allNumbersWrong(Houses.busy());
        allNumbersWrong(new FurnitureCure());
        allNumbersWrongChangeNothing();
        orderWhereSeveralFit();
        questionsChangeNothing();
        fractionsInLowestTerms();
        lastCallOfMany();
        CHECK.end();
    }

    /** "UNKNOWN -1 .., OUTSIDE -2 .., NO -5 .., STATE -3 .., FULL -4"; NONE -6. */
    private static void numbersOfRefusals() {
        CHECK.due("UNKNOWN", UNKNOWN, FurnitureCure.UNKNOWN);
        CHECK.due("OUTSIDE", OUTSIDE, FurnitureCure.OUTSIDE);
        CHECK.due("STATE", STATE, FurnitureCure.STATE);
        CHECK.due("FULL", FULL, FurnitureCure.FULL);
        CHECK.due("NO", NO, FurnitureCure.NO);
        CHECK.due("NONE", NONE, FurnitureCure.NONE);
        CHECK.due("LOST", LOST, FurnitureCure.LOST);
    }

    private static final int[] WRONG = {Integer.MIN_VALUE, Integer.MIN_VALUE + 1, -100000, -7, 100000,
        Integer.MAX_VALUE - 1, Integer.MAX_VALUE};

    /** The first refusal that fits, where no number is as told. */
    private static void allNumbersWrong(FurnitureCure x) {
        for (int n : WRONG) {
            CHECK.due("piece of " + n, UNKNOWN, x.piece(n, n, n, n));
            CHECK.due("leave of " + n, UNKNOWN, x.leave(n));
            CHECK.due("room of " + n, UNKNOWN, x.room(n, n, n));
            CHECK.due("bad of " + n, UNKNOWN, x.bad(n, n, n));
            CHECK.due("bad of " + n + " and -1", UNKNOWN, x.bad(n, -1, n));
            CHECK.due("guest of " + n, UNKNOWN, x.guest(n, n));
            CHECK.due("say of " + n, OUTSIDE, x.say(n));
            CHECK.due("judge of " + n, OUTSIDE, x.judge(n));
            CHECK.due("behind of " + n, UNKNOWN, x.behind(n, n));
            CHECK.due("worse of " + n, OUTSIDE, x.worse(n));
            CHECK.due("stays of " + n, UNKNOWN, x.stays(n));
            CHECK.due("alone of " + n, UNKNOWN, x.alone(n, n));
            CHECK.due("all of " + n, OUTSIDE, x.all(n));
            CHECK.due("ways of " + n, OUTSIDE, x.ways(n, n, n));
            CHECK.due("rooms of " + n, OUTSIDE, x.rooms(n, n));
            CHECK.due("seats of " + n, UNKNOWN, x.seats(n));
            CHECK.due("seen of " + n, OUTSIDE, x.seen(n, n, n));
            CHECK.due("does of " + n, NONE, x.does(n));
            CHECK.due("tries of " + n, OUTSIDE, x.tries(n));
            CHECK.due("home of " + n, LOST + OUTSIDE, x.home(n, n, n, n, n, n));
            CHECK.due("bill of " + n, UNKNOWN, x.bill(n, n));
            CHECK.due("draughts of " + n, LOST + UNKNOWN, x.draughts(n, n, n, n, n));
            CHECK.due("week of " + n, OUTSIDE, x.week(n, n, n));
            CHECK.due("image of " + n, OUTSIDE, x.image(n));
            CHECK.due("restore of " + n, OUTSIDE, x.restore(n));
            CHECK.due("told of " + n, OUTSIDE, x.told(n));
        }
    }

    private static void allNumbersWrongChangeNothing() {
        FurnitureCure x = Houses.busy();
        String untouched = Houses.seenThrough(Houses.busy());
        for (int n : new int[] {Integer.MIN_VALUE, Integer.MAX_VALUE}) {
            x.piece(n, n, n, n);
            x.leave(n);
            x.room(n, n, n);
            x.bad(n, n, n);
            x.guest(n, n);
            x.say(n);
            x.seen(n, n, n);
            x.image(n);
            x.restore(n);
            x.week(n, n, n);
        }
        CHECK.holds("refused calls change nothing", untouched.equals(Houses.seenThrough(x)));
    }

    /** UNKNOWN, OUTSIDE, NO, STATE, FULL: each pair that one call can have. */
    private static void orderWhereSeveralFit() {
        FurnitureCure x = Houses.withTwo();
        Houses.write(x, Houses.repeat(".", 59) + "A");
        CHECK.due("piece: UNKNOWN, OUTSIDE", UNKNOWN, x.piece(6, 21, 21, 21));
        CHECK.due("room: UNKNOWN, OUTSIDE", UNKNOWN, x.room(4, 3, 6));
        CHECK.due("bad: UNKNOWN, OUTSIDE", UNKNOWN, x.bad(6, 0, 4));
        CHECK.due("bad for itself: UNKNOWN, OUTSIDE", UNKNOWN, x.bad(3, 3, 4));
        CHECK.due("guest: UNKNOWN, OUTSIDE", UNKNOWN, x.guest(6, 64));
        CHECK.due("say: OUTSIDE, FULL", OUTSIDE, x.say(127));
        CHECK.due("say: FULL", FULL, x.say(126));
        CHECK.due("judge: OUTSIDE, NO", OUTSIDE, x.judge(2));
        CHECK.due("judge: NO", NO, x.judge(1));
        CHECK.due("behind: UNKNOWN, OUTSIDE, NO", UNKNOWN, x.behind(2, 4));
        CHECK.due("behind: UNKNOWN, NO", UNKNOWN, x.behind(2, 3));
        CHECK.due("behind: OUTSIDE, NO", OUTSIDE, x.behind(1, 4));
        CHECK.due("behind: NO", NO, x.behind(1, 3));
        CHECK.due("worse: OUTSIDE, NO", OUTSIDE, x.worse(2));
        CHECK.due("worse: NO", NO, x.worse(1));
        CHECK.due("alone: UNKNOWN, OUTSIDE", UNKNOWN, x.alone(2, 2));
        CHECK.due("bill: UNKNOWN, OUTSIDE", UNKNOWN, x.bill(10000, 2));
        CHECK.due("draughts: UNKNOWN, OUTSIDE", LOST + UNKNOWN, x.draughts(2, 10, 11, 21, 2));
        CHECK.due("draughts: OUTSIDE", LOST + OUTSIDE, x.draughts(1, 0, 0, 0, 2));
        CHECK.due("restore: OUTSIDE, STATE", OUTSIDE, x.restore(2));
        CHECK.due("restore: STATE", STATE, x.restore(1));
        for (int count = 0; count < 8; count++) {
            x.seen(0, 1, 0);
        }
        CHECK.due("seen: OUTSIDE, FULL", OUTSIDE, x.seen(21, 1, 0));
        CHECK.due("seen: FULL", FULL, x.seen(20, 1, 0));
    }

    /** "not being DONE", "Nothing is DONE in fact": what only asks leaves all as it is. */
    private static void questionsChangeNothing() {
        FurnitureCure x = Houses.busy();
        String untouched = Houses.seenThrough(Houses.busy());
        x.fault();
        x.judge(0);
        x.behind(0, 0);
        x.worse(1);
        x.well();
        x.stays(5);
        x.alone(5, 0);
        x.all(1);
        x.ways(3, 64, 3);
        x.rooms(3, 64);
        x.seats(3);
        x.does(-1);
        x.tries(0);
        x.home(9, 9, 5, 0, 0, 0);
        x.bill(9999, 0);
        x.draughts(5, 9, 5, 19, 0);
        x.week(9999, 99, 0);
        x.told(1);
        CHECK.holds("questions change nothing", untouched.equals(Houses.seenThrough(x)));
    }

    /** "Fractions are told in lowest terms by part: 0 the upper, 1 the lower number": 0 is 0 of 1, all is 1 of 1. */
    private static void fractionsInLowestTerms() {
        FurnitureCure x = Houses.withOne(0, 0, 0, 3);
        for (int m = 0; m <= 9; m++) {
            for (int t = 0; t <= 10; t++) {
                CHECK.due("nought's upper", 0, x.draughts(0, m, t, 2, 0));
                CHECK.due("nought's lower", 1, x.draughts(0, m, t, 2, 1));
                if (t % 5 == 0) {
                    CHECK.due("all's upper", 1, x.draughts(0, m, t, 12, 0));
                    CHECK.due("all's lower", 1, x.draughts(0, m, t, 12, 1));
                }
            }
        }
        CHECK.due("home's lower where no coin is cut", 1, x.home(9, 9, 10, 0, 0, 1));
        CHECK.due("home's upper that has no common part", 11, x.home(9, 1, 1, 0, 0, 0));
        CHECK.due("home's lower that has no common part", 10, x.home(9, 1, 1, 0, 0, 1));
    }

    /** "An object is used for at most 512 calls after it has been made": the 512th is answered as the first. */
    private static void lastCallOfMany() {
        FurnitureCure x = new FurnitureCure();
        for (int call = 1; call < 512; call++) {
            CHECK.due("call " + call, 1, x.piece(5, call % 21, 0, 0));
        }
        CHECK.due("call 512", 511 % 21, x.told(60));
    }
}
