/** The bounds of promises 16 to 20; ahead of each test stands the sentence of the document that names them. */
public final class RoomsBoundsTest {
    private static final Check CHECK = new Check("RoomsBoundsTest");
    private static final Bounds BUSY = new Bounds(CHECK, Houses::busy);
    private static final int UNKNOWN = -1, OUTSIDE = -2, NONE = -6;
    private static final String TWOS = "ABACADAEAFBCBDBEBFCDCECFDEDFEF";

    public static void main(String[] args) {
        alonePiece();
        aloneWhat();
        aloneRoom();
        aloneHours();
        aloneNone();
        allWhat();
        allOfNoneAndOfTheWell();
        allHours();
        allDigits();
        allLeastNumber();
        allNone();
        waysSets();
        waysRooms();
        waysNoneAndAll();
        waysTwos();
        waysOfTwosNotThere();
        roomsSets();
        roomsFewest();
        roomsNone();
        seatsGuest();
        seatsNoneAndAll();
        seatsFirstWay();
        CHECK.end();
    }

    /** Promise 16: "UNKNOWN; OUTSIDE". */
    private static void alonePiece() {
        for (int what = 0; what <= 1; what++) {
            int asked = what;
            BUSY.refusedBeside("alone(n, " + what + ")", (x, n) -> x.alone(n, asked), 0, 5, UNKNOWN);
            for (int absent : new int[] {1, 3, 4}) {
                BUSY.refused("alone(" + absent + ", " + what + ")", (x, n) -> x.alone(n, asked), absent, UNKNOWN);
            }
            BUSY.taken("alone(n, " + what + ")", (x, n) -> x.alone(n, asked), 0, what == 0 ? 0 : 2);
            BUSY.taken("alone(n, " + what + ")", (x, n) -> x.alone(n, asked), 5, what == 0 ? 0 : 20);
        }
        BUSY.refused("alone(1, 2): unknown ahead of outside", (x, n) -> x.alone(n, 2), 1, UNKNOWN);
        BUSY.refused("alone(6, -1): unknown ahead of outside", (x, n) -> x.alone(n, -1), 6, UNKNOWN);
    }

    /** Promise 16: "the ROOM (what = 0), hours (1)". */
    private static void aloneWhat() {
        BUSY.refusedBeside("alone(5, n)", (x, n) -> x.alone(5, n), 0, 1, OUTSIDE);
        BUSY.refusedBeside("alone(2, n) of one that is well", (x, n) -> x.alone(2, n), 0, 1, OUTSIDE);
        Bounds helpless = new Bounds(CHECK, () -> Houses.withOne(0, 1, 0, 0));
        helpless.refusedBeside("alone(0, n) where no room helps", (x, n) -> x.alone(0, n), 0, 1, OUTSIDE);
        BUSY.taken("alone(5, n)", (x, n) -> x.alone(5, n), 0, 0);
        BUSY.taken("alone(5, n)", (x, n) -> x.alone(5, n), 1, 20);
    }

    /** "the ROOM in which a PIECE .. is WELL soonest .., the least of several": each of the four, by one hour. */
    private static void aloneRoom() {
        for (int best = 0; best < 4; best++) {
            FurnitureCure x = Houses.withOne(3, 0, 6, 0);
            for (int room = 0; room < 4; room++) {
                x.room(room, 1, room == best ? -3 : -2);
            }
            CHECK.due("alone(3, 0) where room " + best + " is best", best, x.alone(3, 0));
            CHECK.due("alone(3, 1) where room " + best + " is best", 2, x.alone(3, 1));
            for (int room = best; room < 4; room++) {
                x.room(room, 1, -3);
            }
            CHECK.due("alone(3, 0) where rooms from " + best + " on are best", best, x.alone(3, 0));
        }
        FurnitureCure x = Houses.withOne(3, 0, 6, 0);
        for (int room = 0; room < 4; room++) {
            x.room(room, 1, -1);
        }
        CHECK.due("alone(3, 0) where all are alike", 0, x.alone(3, 0));
        Houses.act(x, "Dd");
        CHECK.due("alone(3, 0) where all are alike, from d", 0, x.alone(3, 0));
    }

    /** "in how many hours (0 to 60)": an ILL of 20 that falls by 1 takes longest, and hour 99 does not end it. */
    private static void aloneHours() {
        int[][] cases = {{0, -1, 0}, {0, 5, 0}, {1, -1, 1}, {5, -5, 1}, {6, -5, 2}, {19, -1, 19}, {20, -1, 20},
            {20, -5, 4}};
        for (int[] each : cases) {
            for (int ill = 0; ill < 3; ill++) {
                FurnitureCure x = Houses.withOne(0, ill == 0 ? each[0] : 0, ill == 1 ? each[0] : 0,
                        ill == 2 ? each[0] : 0);
                x.room(0, ill, each[1]);
                CHECK.due("alone(0, 1) with " + each[0] + " of " + ill + " by " + each[1], each[2], x.alone(0, 1));
                CHECK.due("alone(0, 0) with " + each[0] + " of " + ill + " by " + each[1], 0, x.alone(0, 0));
            }
        }
        FurnitureCure x = Houses.withOne(0, 0, 0, 20);
        Houses.pass(x, 99);
        x.room(2, 2, -1);
        CHECK.due("alone(0, 1) at hour 99", 20, x.alone(0, 1));
        CHECK.due("alone(0, 0) at hour 99", 2, x.alone(0, 0));
    }

    /** "being there from now on, and nothing else, .. (not SAT in) ..; NONE". */
    private static void aloneNone() {
        FurnitureCure x = Houses.withOne(1, 2, 0, 1);
        Houses.act(x, "B!");
        x.room(0, 0, -1);
        x.room(1, 2, -5);
        CHECK.due("alone(1, 0) where no room helps with all", NONE, x.alone(1, 0));
        CHECK.due("alone(1, 1) where no room helps with all", NONE, x.alone(1, 1));
        x.room(0, 2, -1);
        CHECK.due("alone(1, 1) not sat in", 2, x.alone(1, 1));
        x.room(0, 1, 1);
        CHECK.due("alone(1, 1) where nerves come", NONE, x.alone(1, 1));
        x.piece(0, 0, 0, 0);
        x.bad(0, 1, -3);
        CHECK.due("alone(1, 1) without who would help", NONE, x.alone(1, 1));
        CHECK.due("alone(0, 1) of one that is well now", 0, x.alone(0, 1));
    }

    private static void allDue(FurnitureCure x, String when, int hours, int rooms) {
        CHECK.due("all(0) " + when, hours, x.all(0));
        CHECK.due("all(1) " + when, rooms, x.all(1));
    }

    /** Promise 17: "hours (what = 0), ROOMS (1)"; "OUTSIDE". */
    private static void allWhat() {
        BUSY.refusedBeside("all(n)", (x, n) -> x.all(n), 0, 1, OUTSIDE);
        BUSY.taken("all(n)", (x, n) -> x.all(n), 0, 20);
        BUSY.taken("all(n)", (x, n) -> x.all(n), 1, 40440);
        Bounds none = new Bounds(CHECK, FurnitureCure::new);
        none.refusedBeside("all(n) of none there", (x, n) -> x.all(n), 0, 1, OUTSIDE);
        Bounds helpless = new Bounds(CHECK, () -> Houses.withOne(0, 1, 0, 0));
        helpless.refusedBeside("all(n) where no room helps", (x, n) -> x.all(n), 0, 1, OUTSIDE);
    }

    /** "in how many hours (0 ..)": none there, and all there and well now, whatever rooms do. */
    private static void allOfNoneAndOfTheWell() {
        allDue(new FurnitureCure(), "of none there", 0, 444444);
        FurnitureCure x = Houses.withAll(0, 0, 0);
        allDue(x, "of six that are well", 0, 0);
        for (int room = 0; room < 4; room++) {
            x.room(room, 0, 5);
        }
        Houses.act(x, "AbBcCd");
        allDue(x, "of six that are well now", 0, 0);
        x.piece(5, 1, 0, 0);
        allDue(x, "of six, one of which is not", NONE, NONE);
        // F alone needs d, but from the first hour on all others must be where no creaks come.
        x.room(3, 0, -1);
        allDue(x, "of six, one of which is well behind an hour", 1, 333333);
    }

    /** "(0 to 20)": an ILL of 20 that falls by 1 takes longest, and hour 99 does not end it. */
    private static void allHours() {
        for (int v = 1; v <= 20; v++) {
            FurnitureCure x = Houses.withAll(v, v, v);
            for (int ill = 0; ill < 3; ill++) {
                x.room(0, ill, -1);
            }
            allDue(x, "of six with " + v, v, 0);
        }
        FurnitureCure x = Houses.withOne(2, 20, 0, 0);
        Houses.pass(x, 99);
        x.room(1, 0, -1);
        allDue(x, "at hour 99", 20, 441444);
        x.room(1, 0, 0);
        allDue(x, "where no room helps", NONE, NONE);
    }

    /** "the ROOMS (six digits, A's the highest, 4: there is no such PIECE)". */
    private static void allDigits() {
        int[] ofA = {100000, 10000, 1000, 100, 10, 1};
        for (int piece = 0; piece < 6; piece++) {
            for (int room = 0; room < 4; room++) {
                FurnitureCure x = Houses.withOne(piece, 0, 0, 5);
                x.room(room, 2, -5);
                allDue(x, "of " + piece + " in room " + room, 1, 444444 + (room - 4) * ofA[piece]);
            }
        }
        FurnitureCure x = Houses.withAll(1, 0, 0);
        x.room(3, 0, -1);
        allDue(x, "of six in the last room", 1, 333333);
    }

    /** "the least number of these": of several ways that are soonest. */
    private static void allLeastNumber() {
        FurnitureCure x = Houses.withAll(0, 4, 0);
        x.room(1, 1, -4);
        x.room(2, 1, -4);
        x.room(3, 1, -4);
        allDue(x, "where three rooms are alike", 1, 111111);
        x.bad(0, 5, 1);
        allDue(x, "where A and F are apart", 1, 111112);
        x.bad(5, 0, 1);
        x.bad(4, 5, 1);
        allDue(x, "where E and F are apart, too", 1, 111112);
        x.bad(0, 4, 1);
        allDue(x, "where A, E and F are apart", 1, 111123);
        x.room(0, 1, -5);
        allDue(x, "where A and F may be with others in the first room", 1, 1);
    }

    /** "by which all are WELL at once ..; NONE". */
    private static void allNone() {
        FurnitureCure x = Houses.withAll(0, 0, 0);
        x.piece(0, 2, 0, 0);
        Houses.act(x, "A!");
        allDue(x, "where no room helps who is sat in", NONE, NONE);
        x.room(0, 0, -1);
        allDue(x, "where one room helps", 2, 0);
        x.room(0, 2, 1);
        allDue(x, "where that room brings damp", NONE, NONE);
        x.room(0, 2, 0);
        // A is the worse for it in a with F, who has nothing against another room.
        x.bad(5, 0, 1);
        allDue(x, "where F must not be with A", 2, 1);
        x.room(1, 1, 1);
        x.room(2, 1, 1);
        x.room(3, 1, 1);
        allDue(x, "where F is not well elsewhere", NONE, NONE);
    }

    /** Promise 18: "OUTSIDE: sets 0 to 32767". */
    private static void waysSets() {
        BUSY.refusedBeside("ways(n, 0, 1)", (x, n) -> x.ways(n, 0, 1), 0, 32767, OUTSIDE);
        BUSY.refusedBeside("ways(0, n, 4)", (x, n) -> x.ways(0, n, 4), 0, 32767, OUTSIDE);
        BUSY.taken("ways(n, 0, 4)", (x, n) -> x.ways(n, 0, 4), 0, 64);
        BUSY.taken("ways(n, 0, 4)", (x, n) -> x.ways(n, 0, 4), 32767, 24);
        BUSY.taken("ways(0, n, 4)", (x, n) -> x.ways(0, n, 4), 32767, 4);
        BUSY.taken("ways(n, n, 4)", (x, n) -> x.ways(n, n, 4), 32767, 0);
    }

    /** Promise 18: "n 1 to 4". */
    private static void waysRooms() {
        BUSY.refusedBeside("ways(0, 0, n)", (x, n) -> x.ways(0, 0, n), 1, 4, OUTSIDE);
        BUSY.taken("ways(0, 0, n)", (x, n) -> x.ways(0, 0, n), 1, 1);
        BUSY.taken("ways(0, 0, n)", (x, n) -> x.ways(0, 0, n), 4, 64);
        Bounds none = new Bounds(CHECK, FurnitureCure::new);
        none.refusedBeside("ways(0, 0, n) of none there", (x, n) -> x.ways(0, 0, n), 1, 4, OUTSIDE);
    }

    /** "in how many ways those that are there can be in ROOMS 0 to n less 1": none there, one, all. */
    private static void waysNoneAndAll() {
        int[] ofSix = {1, 64, 729, 4096};
        int[] allApartOfFour = {0, 0, 0, 24};
        FurnitureCure six = Houses.withAll(1, 1, 1);
        FurnitureCure four = Houses.withAll(1, 1, 1);
        four.leave(0);
        four.leave(3);
        for (int n = 1; n <= 4; n++) {
            CHECK.due("ways of none there in " + n, 1, new FurnitureCure().ways(32767, 32767, n));
            CHECK.due("ways of F in " + n, n, Houses.withOne(5, 1, 1, 1).ways(32767, 32767, n));
            CHECK.due("ways of six in " + n, ofSix[n - 1], six.ways(0, 0, n));
            CHECK.due("ways of six apart in " + n, 0, six.ways(32767, 0, n));
            CHECK.due("ways of six together in " + n, n, six.ways(0, 32767, n));
            CHECK.due("ways of four apart in " + n, allApartOfFour[n - 1], four.ways(32767, 0, n));
        }
    }

    /** "(bits by twos, AB 0, AC 1, .. EF 14)". */
    private static void waysTwos() {
        FurnitureCure x = Houses.withAll(1, 1, 1);
        for (int pair = 0; pair < 15; pair++) {
            int one = TWOS.charAt(2 * pair) - 'A';
            int two = TWOS.charAt(2 * pair + 1) - 'A';
            x.leave(one);
            CHECK.due("without " + one + ", pair " + pair + " apart", 1024, x.ways(1 << pair, 0, 4));
            x.piece(one, 1, 1, 1);
            x.leave(two);
            CHECK.due("without " + two + ", pair " + pair + " together", 1024, x.ways(0, 1 << pair, 4));
            x.piece(two, 1, 1, 1);
            CHECK.due("pair " + pair + " apart", 3072, x.ways(1 << pair, 0, 4));
            CHECK.due("pair " + pair + " together", 1024, x.ways(0, 1 << pair, 4));
            CHECK.due("pair " + pair + " both", 0, x.ways(1 << pair, 1 << pair, 4));
        }
    }

    /** "(twos of which one is not there do not matter)". */
    private static void waysOfTwosNotThere() {
        for (int pair = 0; pair < 15; pair++) {
            FurnitureCure x = new FurnitureCure();
            x.piece(TWOS.charAt(2 * pair) - 'A', 1, 1, 1);
            CHECK.due("one of pair " + pair, 4, x.ways(32767, 32767, 4));
            x.piece(TWOS.charAt(2 * pair + 1) - 'A', 1, 1, 1);
            int others = 32767 & ~(1 << pair);
            CHECK.due("both of pair " + pair + ", others' twos", 16, x.ways(others, others, 4));
            CHECK.due("both of pair " + pair + " apart", 12, x.ways(32767, others, 4));
            CHECK.due("both of pair " + pair + " together", 4, x.ways(others, 32767, 4));
        }
    }

    /** Promise 19: "OUTSIDE". */
    private static void roomsSets() {
        BUSY.refusedBeside("rooms(n, 0)", (x, n) -> x.rooms(n, 0), 0, 32767, OUTSIDE);
        BUSY.refusedBeside("rooms(0, n)", (x, n) -> x.rooms(0, n), 0, 32767, OUTSIDE);
        BUSY.refusedBeside("rooms(32767, n) where none can be", (x, n) -> x.rooms(32767, n), 0, 32767, OUTSIDE);
        BUSY.taken("rooms(n, 0)", (x, n) -> x.rooms(n, 0), 0, 1);
        BUSY.taken("rooms(n, 0)", (x, n) -> x.rooms(n, 0), 32767, 3);
        BUSY.taken("rooms(0, n)", (x, n) -> x.rooms(0, n), 32767, 1);
    }

    /** "the fewest ROOMS (1 to 4) in which they can": as many apart as are there. */
    private static void roomsFewest() {
        CHECK.due("rooms for none there", 1, new FurnitureCure().rooms(32767, 32767));
        FurnitureCure x = new FurnitureCure();
        for (int piece = 0; piece < 6; piece++) {
            x.piece(piece, 1, 1, 1);
            CHECK.due("rooms for " + (piece + 1) + " apart", piece < 4 ? piece + 1 : NONE, x.rooms(32767, 0));
            CHECK.due("rooms for " + (piece + 1) + " together", 1, x.rooms(0, 32767));
            CHECK.due("rooms for " + (piece + 1), 1, x.rooms(0, 0));
        }
        // A B C D apart; E with A, F with B.
        CHECK.due("rooms for six, two of them with others", 4, x.rooms(1 | 2 | 4 | 32 | 64 | 512, 8 | 256));
    }

    /** "(NONE)": five apart, and what must and must not be. */
    private static void roomsNone() {
        FurnitureCure x = Houses.withAll(1, 1, 1);
        CHECK.due("rooms for six apart", NONE, x.rooms(32767, 0));
        for (int pair = 0; pair < 15; pair++) {
            CHECK.due("rooms, pair " + pair + " both", NONE, x.rooms(1 << pair, 1 << pair));
            CHECK.due("rooms, pair " + pair + " apart", 2, x.rooms(1 << pair, 0));
            CHECK.due("rooms, all but pair " + pair + " apart", NONE, x.rooms(32767 & ~(1 << pair), 0));
            CHECK.due("rooms, pair " + pair + " apart, all others together", NONE,
                    x.rooms(1 << pair, 32767 & ~(1 << pair)));
        }
    }

    /** Promise 20: "how many (guest = -1), in what"; "UNKNOWN". */
    private static void seatsGuest() {
        BUSY.refusedBeside("seats(n)", (x, n) -> x.seats(n), -1, 5, UNKNOWN);
        BUSY.taken("seats(n)", (x, n) -> x.seats(n), -1, 3);
        BUSY.taken("seats(n)", (x, n) -> x.seats(n), 0, 0);
        BUSY.taken("seats(n)", (x, n) -> x.seats(n), 3, 5);
        BUSY.taken("seats(n)", (x, n) -> x.seats(n), 5, 2);
        Bounds none = new Bounds(CHECK, FurnitureCure::new);
        none.refusedBeside("seats(n) of none there", (x, n) -> x.seats(n), -1, 5, UNKNOWN);
    }

    private static void seated(FurnitureCure x, String when, int... due) {
        for (int i = 0; i < due.length; i++) {
            CHECK.due("seats(" + (i - 1) + ") " + when, due[i], x.seats(i - 1));
        }
    }

    /** "the most who can sit at once, each in a PIECE that is there and liked, one in each": none to six. */
    private static void seatsNoneAndAll() {
        FurnitureCure x = new FurnitureCure();
        seated(x, "of none there", 0, NONE, NONE, NONE, NONE, NONE, NONE);
        for (int guest = 0; guest < 6; guest++) {
            x.guest(guest, 63);
        }
        seated(x, "where all like what is not there", 0, NONE, NONE, NONE, NONE, NONE, NONE);
        x.piece(5, 1, 1, 1);
        seated(x, "in F alone", 1, 5, NONE, NONE, NONE, NONE, NONE);
        for (int piece = 0; piece < 5; piece++) {
            x.piece(piece, 1, 1, 1);
        }
        seated(x, "where all like all", 6, 0, 1, 2, 3, 4, 5);
        FurnitureCure y = Houses.withAll(1, 1, 1);
        seated(y, "where none likes any", 0, NONE, NONE, NONE, NONE, NONE, NONE);
        for (int guest = 0; guest < 6; guest++) {
            y.guest(guest, 1);
        }
        seated(y, "where all like A", 1, 0, NONE, NONE, NONE, NONE, NONE);
        for (int guest = 0; guest < 6; guest++) {
            y.guest(guest, 32 >> guest);
        }
        seated(y, "where each likes one", 6, 5, 4, 3, 2, 1, 0);
    }

    /** "in the first such way (GUEST 0's least PIECE, and so on; none, NONE, behind all)". */
    private static void seatsFirstWay() {
        FurnitureCure x = Houses.withAll(1, 1, 1);
        x.guest(0, 33);
        x.guest(5, 1);
        seated(x, "where the first one makes place", 2, 5, NONE, NONE, NONE, NONE, 0);
        x.guest(4, 32);
        seated(x, "where the last one stands", 2, 0, NONE, NONE, NONE, 5, NONE);
        x.guest(0, 32);
        seated(x, "where one behind stands", 2, 5, NONE, NONE, NONE, NONE, 0);
        x.guest(4, 33);
        seated(x, "where the last one stands for another", 2, 5, NONE, NONE, NONE, 0, NONE);
        for (int guest = 0; guest < 6; guest++) {
            x.guest(guest, 62);
        }
        x.guest(5, 63);
        seated(x, "where the last one sits in A", 6, 1, 2, 3, 4, 5, 0);
        x.leave(0);
        seated(x, "where A has left", 5, 1, 2, 3, 4, 5, NONE);
    }
}
