import java.util.Random;

/**
 * The document read from its first line: sentences that no other test stands for by itself, and answers that are looked
 * at by doing what they tell (a cure behind "behind", hours behind "stays", a room behind "does").
 */
public final class DocumentTest {
    private static final Check CHECK = new Check("DocumentTest");
    private static final int UNKNOWN = -1, NO = -5, NONE = -6;
    private static final int HOUSES = 120;
    /** An ILL is 20 at most and falls by 1 at least, so who is not well by then never is. */
    private static final int LONG_ENOUGH = 21;

    public static void main(String[] args) {
        setsAreBits();
        lettersAndRooms();
        satInForThisHour();
        badInEachRoom();
        allPiecesByWhatWasAhead();
        judgedAndDone();
        behindAndDone();
        worseHourByHour();
        staysByPassing();
        aloneByPassing();
        allByPassing();
        allOfTwoByEachWay();
        roomsByWays();
        seatsAreTaken();
        doesByRealRooms();
        triesByRealRooms();
        homeFromTheLastOneBack();
        billIsShared();
        draughtsByTheHour();
        weekByActs();
        CHECK.end();
    }

    // ---- houses that are drawn

    private static char letter(int piece) {
        return (char) ('A' + piece);
    }

    private static char roomLetter(int room) {
        return (char) ('a' + room);
    }

    private static boolean isIn(int set, int piece) {
        return (set >> piece & 1) == 1;
    }

    private static int illsOf(FurnitureCure x, int piece) {
        return x.told(10 * (1 + piece)) + x.told(10 * (1 + piece) + 1) + x.told(10 * (1 + piece) + 2);
    }

    /** Some pieces in some rooms, rooms that mostly help, pieces that are bad for others; some seventy calls. */
    private static FurnitureCure drawn(int seed) {
        return drawn(seed, false);
    }

    /** Mirrored, A is what F is otherwise, B what E is, and so on. */
    private static FurnitureCure drawn(int seed, boolean mirrored) {
        Random random = new Random(seed);
        FurnitureCure x = new FurnitureCure();
        StringBuilder walks = new StringBuilder();
        for (int each = 0; each < 6; each++) {
            int piece = mirrored ? 5 - each : each;
            int[] ills = {random.nextInt(9), random.nextInt(9), random.nextInt(9)};
            int room = random.nextInt(4);
            if (random.nextInt(5) != 0) {
                x.piece(piece, ills[0], ills[1], ills[2]);
                walks.append(room == 0 ? "" : "" + letter(piece) + roomLetter(room));
            }
        }
        Houses.act(x, walks.toString());
        for (int place = 0; place < 12; place++) {
            x.room(place / 3, place % 3, 1 - random.nextInt(6));
        }
        for (int i = 0; i < 10; i++) {
            int piece = random.nextInt(6);
            int other = random.nextInt(6);
            x.bad(mirrored ? 5 - piece : piece, mirrored ? 5 - other : other, random.nextInt(7) - 3);
        }
        for (int guest = 0; guest < 6; guest++) {
            x.guest(guest, random.nextInt(64) & random.nextInt(64));
        }
        return x;
    }

    /** The same house, some of whose pieces are sat in now. */
    private static FurnitureCure drawnAndSatIn(int seed) {
        FurnitureCure x = drawn(seed);
        Random random = new Random(~seed);
        StringBuilder seats = new StringBuilder();
        for (int piece = 0; piece < 6; piece++) {
            seats.append(random.nextBoolean() && isIn(x.told(1), piece) ? letter(piece) + "!" : "");
        }
        Houses.act(x, seats.toString());
        return x;
    }

    /** Acts that mostly can be. */
    private static String[] drawnActs(int seed, int there) {
        Random random = new Random(seed + 7777);
        String[] acts = new String[1 + random.nextInt(14)];
        for (int i = 0; i < acts.length; i++) {
            int piece = random.nextInt(6);
            boolean hour = random.nextInt(2) == 0 || !isIn(there, piece) && random.nextInt(8) != 0;
            acts[i] = hour ? "." : "" + letter(piece) + "abcd!".charAt(random.nextInt(5));
        }
        return acts;
    }

    // ---- Terms, and 1

    /** "Sets are bits." */
    private static void setsAreBits() {
        for (int set = 0; set < 64; set++) {
            FurnitureCure x = new FurnitureCure();
            StringBuilder seats = new StringBuilder();
            for (int piece = 0; piece < 6; piece++) {
                if (isIn(set, piece)) {
                    x.piece(piece, 0, 0, 0);
                    seats.append(letter(piece)).append('!');
                }
            }
            Houses.act(x, seats.toString());
            x.guest(3, set);
            CHECK.due("told(1) of the set " + set, set, x.told(1));
            CHECK.due("told(4) of the set " + set, set, x.told(4));
            CHECK.due("well() of the set " + set, set, x.well());
            CHECK.due("told(603) of the set " + set, set, x.told(603));
        }
    }

    /** "PIECES 0 to 5 (A to F)", "ROOM 0 to 3 (a to d)": "a PIECE's letter and a ROOM's (it is walked there)". */
    private static void lettersAndRooms() {
        for (int piece = 0; piece < 6; piece++) {
            for (int room = 0; room < 4; room++) {
                FurnitureCure x = Houses.withAll(3, 4, 5);
                Houses.act(x, "" + letter(piece) + (room == 3 ? 'b' : 'd'));
                CHECK.due("a walk is one act", 1, Houses.act(x, "" + letter(piece) + roomLetter(room)));
                for (int each = 0; each < 6; each++) {
                    CHECK.due("room of " + each + " where " + piece + " is walked to " + room,
                            each == piece ? room : 0, x.told(13 + 10 * each));
                    CHECK.due("no ills come by walking", 12, illsOf(x, each));
                }
                CHECK.due("no hour passes by walking", 0, x.told(2));
            }
        }
    }

    /** "! (it is SAT in this hour)"; ". (an hour passes: nothing is SAT in then)". */
    private static void satInForThisHour() {
        for (int piece = 0; piece < 6; piece++) {
            FurnitureCure x = Houses.withAll(9, 9, 9);
            CHECK.due("a seat is one act", 1, Houses.act(x, letter(piece) + "!"));
            CHECK.due("it is sat in", 1 << piece, x.told(4));
            CHECK.due("no hour passes by sitting", 0, x.told(2));
            CHECK.due("no creak goes by sitting alone", 27, illsOf(x, piece));
            for (int hour = 1; hour <= 2; hour++) {
                Houses.act(x, ".");
                CHECK.due("nothing is sat in then", 0, x.told(4));
                CHECK.due("it is an hour later", hour, x.told(2));
                for (int each = 0; each < 6; each++) {
                    CHECK.due("ills of " + each, each == piece ? 25 : 27, illsOf(x, each));
                }
            }
        }
    }

    /** "in each hour that both are in one ROOM that one has so much more NERVES", in whichever ROOM that is. */
    private static void badInEachRoom() {
        for (int room = 0; room < 4; room++) {
            FurnitureCure x = Houses.withAll(9, 9, 9);
            char to = roomLetter(room);
            char elsewhere = room == 0 ? 'b' : 'a';
            StringBuilder walks = new StringBuilder();
            for (int piece = 0; piece < 6; piece++) {
                char aim = piece == 0 || piece == 5 ? to : elsewhere;
                walks.append(aim == 'a' ? "" : "" + letter(piece) + aim);
            }
            Houses.act(x, walks.toString());
            x.bad(0, 5, 2);
            x.bad(5, 0, -1);
            x.bad(0, 1, 3);
            x.bad(1, 5, 3);
            Houses.act(x, "..");
            int[] nerves = {7, 9, 9, 9, 9, 13};
            for (int piece = 0; piece < 6; piece++) {
                CHECK.due("nerves of " + piece + " with A and F in room " + room, nerves[piece],
                        x.told(11 + 10 * piece));
                CHECK.due("creaks of " + piece, 9, x.told(10 + 10 * piece));
                CHECK.due("damp of " + piece, 9, x.told(12 + 10 * piece));
            }
        }
    }

    /** "All PIECES by what was ahead of the hour": no letter comes before another one, so a mirrored house mirrors. */
    private static void allPiecesByWhatWasAhead() {
        for (int seed = 0; seed < HOUSES; seed++) {
            FurnitureCure x = drawn(seed, false);
            FurnitureCure y = drawn(seed, true);
            for (int hour = 0; hour < 6; hour++) {
                for (int piece = 0; piece < 6; piece++) {
                    for (int what = 0; what <= 3; what++) {
                        CHECK.due("house " + seed + ", hour " + hour + ", mirrored " + piece + " and " + what,
                                x.told(10 + 10 * piece + what), y.told(60 - 10 * piece + what));
                    }
                    CHECK.due("house " + seed + ", mirrored stays", x.stays(piece), y.stays(5 - piece));
                }
                Houses.act(x, ".");
                Houses.act(y, ".");
            }
        }
    }

    // ---- 2 cures

    /** "JUDGED: of CURES the first ACT (from 0 on) that can not be, and why": all ahead of it can be. */
    private static void judgedAndDone() {
        for (int seed = 0; seed < HOUSES; seed++) {
            FurnitureCure x = drawnAndSatIn(seed);
            String[] acts = drawnActs(seed, x.told(1));
            Houses.write(x, String.join("", acts));
            int first = x.judge(0);
            int why = x.judge(1);
            FurnitureCure y = drawnAndSatIn(seed);
            int can = 0;
            while (can < acts.length && Houses.act(y, acts[can]) == 1) {
                can++;
            }
            CHECK.due("judge(0) of house " + seed, can == acts.length ? NONE : can, first);
            if (can < acts.length) {
                CHECK.due("judge(1) of house " + seed, y.judge(1), why);
                CHECK.due("done() of house " + seed, NO, x.done());
                CHECK.due("worse() of house " + seed, NO, x.worse(0));
                CHECK.due("signs stay in house " + seed, String.join("", acts).length(), x.told(0));
            } else {
                CHECK.due("judge(1) of house " + seed, NONE, why);
                CHECK.due("done() of house " + seed, acts.length, x.done());
                CHECK.due("signs go in house " + seed, 0, x.told(0));
                CHECK.holds("all at once is as one by one in house " + seed,
                        Houses.seenWhole(x).equals(Houses.seenWhole(y)));
            }
        }
    }

    /** "DONE: all is so then. BEHIND, likewise, not being DONE". */
    private static void behindAndDone() {
        for (int seed = 0; seed < HOUSES; seed++) {
            FurnitureCure x = drawnAndSatIn(seed);
            Houses.write(x, String.join("", drawnActs(seed, x.told(1))));
            boolean can = x.judge(0) == NONE;
            int there = x.told(1);
            int[] behind = new int[24];
            for (int i = 0; i < 24; i++) {
                behind[i] = x.behind(i / 4, i % 4);
            }
            x.done();
            for (int i = 0; i < 24; i++) {
                int told = can ? x.told(10 + 10 * (i / 4) + i % 4) : NO;
                CHECK.due("behind(" + i / 4 + ", " + i % 4 + ") of house " + seed,
                        isIn(there, i / 4) ? told : UNKNOWN, behind[i]);
            }
        }
    }

    /** "WORSE: the first hour of CURES .. behind which some PIECE has more ILLS together than ahead of it". */
    private static void worseHourByHour() {
        for (int seed = 0; seed < HOUSES; seed++) {
            FurnitureCure x = drawnAndSatIn(seed);
            String[] acts = drawnActs(seed, x.told(1));
            Houses.write(x, String.join("", acts));
            if (x.judge(0) != NONE) {
                continue;
            }
            FurnitureCure y = drawnAndSatIn(seed);
            int[] ahead = illsOfEach(y);
            int hour = 0;
            int worsened = NONE;
            for (int i = 0; i < acts.length && worsened == NONE; i++) {
                Houses.act(y, acts[i]);
                if (acts[i].equals(".")) {
                    int[] behind = illsOfEach(y);
                    worsened = leastMadeWorse(ahead, behind);
                    hour += worsened == NONE ? 1 : 0;
                    ahead = behind;
                }
            }
            CHECK.due("worse(0) of house " + seed, worsened == NONE ? NONE : hour, x.worse(0));
            CHECK.due("worse(1) of house " + seed, worsened, x.worse(1));
        }
    }

    private static int[] illsOfEach(FurnitureCure x) {
        int[] ills = new int[6];
        for (int piece = 0; piece < 6; piece++) {
            ills[piece] = illsOf(x, piece);
        }
        return ills;
    }

    private static int leastMadeWorse(int[] ahead, int[] behind) {
        for (int piece = 0; piece < 6; piece++) {
            if (behind[piece] > ahead[piece]) {
                return piece;
            }
        }
        return NONE;
    }

    /** The first hour behind which all of a set are well at once, nothing being done but that hours pass. */
    private static int hoursBySight(FurnitureCure x, int set) {
        for (int hours = 0; hours <= LONG_ENOUGH; hours++) {
            if ((x.well() & set) == set) {
                return hours;
            }
            Houses.act(x, ".");
        }
        return NONE;
    }

    /** "STAYS: the fewest hours .. behind which a PIECE is WELL, all staying as they are (nothing being SAT in)". */
    private static void staysByPassing() {
        for (int seed = 0; seed < HOUSES; seed++) {
            FurnitureCure x = drawnAndSatIn(seed);
            for (int piece = 0; piece < 6; piece++) {
                int due = isIn(x.told(1), piece) ? hoursBySight(drawn(seed), 1 << piece) : UNKNOWN;
                CHECK.due("stays(" + piece + ") of house " + seed, due, x.stays(piece));
            }
        }
    }

    // ---- 3 rooms, seats

    /** The same rooms, and a piece by itself in one of them. */
    private static FurnitureCure byItself(FurnitureCure x, int piece, int room) {
        FurnitureCure y = new FurnitureCure();
        for (int place = 0; place < 12; place++) {
            y.room(place / 3, place % 3, x.told(100 + place / 3 * 100 + place % 3) - 10);
        }
        y.piece(piece, x.told(10 + 10 * piece), x.told(11 + 10 * piece), x.told(12 + 10 * piece));
        Houses.act(y, room == 0 ? "" : "" + letter(piece) + roomLetter(room));
        return y;
    }

    /** "ALONE: the ROOM in which a PIECE, being there from now on, and nothing else, is WELL soonest (not SAT in)". */
    private static void aloneByPassing() {
        for (int seed = 0; seed < HOUSES; seed++) {
            int there = drawn(seed).told(1);
            for (int piece = 0; piece < 6; piece++) {
                FurnitureCure x = drawnAndSatIn(seed);
                int soonest = isIn(there, piece) ? NONE : UNKNOWN;
                int best = soonest;
                for (int room = 3; room >= 0 && isIn(there, piece); room--) {
                    int hours = hoursBySight(byItself(x, piece, room), 1 << piece);
                    if (hours != NONE && (soonest == NONE || hours <= soonest)) {
                        soonest = hours;
                        best = room;
                    }
                }
                CHECK.due("alone(" + piece + ", 0) of house " + seed, best, x.alone(piece, 0));
                CHECK.due("alone(" + piece + ", 1) of house " + seed, soonest, x.alone(piece, 1));
            }
        }
    }

    /** Walks all that are there to the rooms of six digits. */
    private static void walkAll(FurnitureCure x, int digits) {
        int left = digits;
        StringBuilder walks = new StringBuilder();
        for (int piece = 5; piece >= 0; piece--) {
            int room = left % 10;
            left /= 10;
            boolean walked = isIn(x.told(1), piece) && x.told(13 + 10 * piece) != room;
            walks.append(walked ? "" + letter(piece) + roomLetter(room) : "");
        }
        Houses.act(x, walks.toString());
    }

    /** "ALL: ROOMS for all PIECES .. by which all are WELL at once soonest: in how many hours". */
    private static void allByPassing() {
        int told = 0;
        for (int seed = 0; seed < 4 * HOUSES; seed++) {
            FurnitureCure x = drawnAndSatIn(seed);
            int hours = x.all(0);
            int digits = x.all(1);
            if (hours == NONE) {
                CHECK.due("all(1) where all(0) is NONE", NONE, digits);
                continue;
            }
            told++;
            int left = digits;
            for (int piece = 5; piece >= 0; piece--) {
                CHECK.holds("a digit of 4 for who is not there", left % 10 == 4 == !isIn(x.told(1), piece));
                left /= 10;
            }
            FurnitureCure y = drawn(seed);
            walkAll(y, digits);
            CHECK.due("all(0) of house " + seed, hoursBySight(y, y.told(1)), hours);
        }
        CHECK.holds("some houses are well: " + told, told > HOUSES / 2);
    }

    /** "soonest", "the least number of these": two pieces in each of sixteen ways. */
    private static void allOfTwoByEachWay() {
        for (int seed = 0; seed < HOUSES / 2; seed++) {
            int one = seed % 5;
            int two = one + 1 + seed / 5 % (5 - one);
            int soonest = NONE;
            int least = NONE;
            for (int way = 15; way >= 0; way--) {
                FurnitureCure y = withTwoOf(seed, one, two);
                int digits = 444444 - (4 - way / 4) * powerOfTen(5 - one) - (4 - way % 4) * powerOfTen(5 - two);
                walkAll(y, digits);
                int hours = hoursBySight(y, y.told(1));
                if (hours != NONE && (soonest == NONE || hours <= soonest)) {
                    soonest = hours;
                    least = digits;
                }
            }
            FurnitureCure x = withTwoOf(seed, one, two);
            CHECK.due("all(0) of two in house " + seed, soonest, x.all(0));
            CHECK.due("all(1) of two in house " + seed, least, x.all(1));
        }
    }

    private static FurnitureCure withTwoOf(int seed, int one, int two) {
        FurnitureCure x = drawn(seed);
        x.piece(one, seed % 4, seed % 7, seed % 3);
        x.piece(two, seed % 3, seed % 5, seed % 4);
        for (int piece = 0; piece < 6; piece++) {
            if (piece != one && piece != two) {
                x.leave(piece);
            }
        }
        return x;
    }

    private static int powerOfTen(int n) {
        return n <= 0 ? 1 : 10 * powerOfTen(n - 1);
    }

    /** "in how many ways ..; the fewest ROOMS (1 to 4) in which they can (NONE)". */
    private static void roomsByWays() {
        for (int seed = 0; seed < 4 * HOUSES; seed++) {
            Random random = new Random(seed);
            FurnitureCure x = drawn(seed);
            int apart = random.nextInt(32768) & random.nextInt(32768);
            int together = random.nextInt(32768) & random.nextInt(32768) & random.nextInt(32768);
            int fewest = NONE;
            for (int n = 4; n >= 1; n--) {
                fewest = x.ways(apart, together, n) > 0 ? n : fewest;
            }
            CHECK.due("rooms(" + apart + ", " + together + ") of house " + seed, fewest, x.rooms(apart, together));
        }
    }

    /** "each in a PIECE that is there and liked, one in each": as many seats are told as sit. */
    private static void seatsAreTaken() {
        for (int seed = 0; seed < 4 * HOUSES; seed++) {
            FurnitureCure x = drawn(seed);
            int taken = 0;
            int seated = 0;
            for (int guest = 0; guest < 6; guest++) {
                int seat = x.seats(guest);
                if (seat != NONE) {
                    CHECK.holds("seat " + seat + " is there, liked and free in house " + seed, seat >= 0 && seat < 6
                            && isIn(x.told(1) & x.told(600 + guest) & ~taken, seat));
                    taken |= 1 << seat;
                    seated++;
                }
            }
            CHECK.due("seats(-1) of house " + seed, seated, x.seats(-1));
            CHECK.due("the most who can sit in house " + seed, mostByLikes(x), seated);
        }
    }

    /** Of some guests no more can sit than there are pieces that one of them likes; the tightest such bound is met. */
    private static int mostByLikes(FurnitureCure x) {
        int[] likes = new int[6];
        for (int guest = 0; guest < 6; guest++) {
            likes[guest] = x.told(600 + guest) & x.told(1);
        }
        int most = 6;
        for (int guests = 0; guests < 64; guests++) {
            int liked = 0;
            for (int guest = 0; guest < 6; guest++) {
                liked |= isIn(guests, guest) ? likes[guest] : 0;
            }
            most = Math.min(most, 6 - Integer.bitCount(guests) + Integer.bitCount(liked));
        }
        return most;
    }

    // ---- 4 what a room does, days, bills

    /** What becomes of v in hours by itself in a room that does so much to it. */
    private static int seenInFact(int ill, int v, int hours, int does) {
        FurnitureCure x = Houses.withOne(4, ill == 0 ? v : 7, ill == 1 ? v : 7, ill == 2 ? v : 7);
        x.room(2, ill, does);
        Houses.act(x, "Ec" + Houses.repeat(".", hours));
        return x.told(50 + ill);
    }

    /** "some ILL .. was v .., and m hours .. later w in a ROOM. DOES: numbers .. by which all SIGHTS are so". */
    private static void doesByRealRooms() {
        int[] hours = {1, 2, 5, 9};
        for (int v = 0; v <= 20; v += 4) {
            for (int m : hours) {
                int[] later = new int[11];
                for (int number = -5; number <= 5; number++) {
                    later[number + 5] = seenInFact((v + m) % 3, v, m, number);
                }
                for (int number = -5; number <= 5; number++) {
                    FurnitureCure x = new FurnitureCure();
                    x.seen(v, m, later[number + 5]);
                    int count = 0;
                    for (int other = -5; other <= 5; other++) {
                        if (later[other + 5] == later[number + 5]) {
                            CHECK.due("does(" + count + ") behind " + v + " by " + number + " for " + m, other + 10,
                                    x.does(count));
                            count++;
                        }
                    }
                    CHECK.due("does(-1) behind " + v + " by " + number + " for " + m, count, x.does(-1));
                }
            }
        }
    }

    /** "TRY: v to try next for one hour, so that, whatever w is, fewest of these are left at the most: the least". */
    private static void triesByRealRooms() {
        int[][] hourLater = new int[21][11];
        for (int i = 0; i < 21 * 11; i++) {
            hourLater[i / 11][i % 11] = seenInFact(1, i / 11, 1, i % 11 - 5);
        }
        for (int number = -5; number <= 5; number++) {
            for (int start = 0; start <= 20; start += 4) {
                FurnitureCure x = new FurnitureCure();
                x.seen(start, 2, seenInFact(0, start, 2, number));
                x.image(0);
                int least = NONE;
                int fewest = 12;
                for (int v = 20; v >= 0; v--) {
                    int left = mostLeft(x, v, hourLater[v]);
                    least = left <= fewest ? v : least;
                    fewest = Math.min(left, fewest);
                }
                CHECK.due("tries(0) behind " + start + " by " + number, least, x.tries(0));
                CHECK.due("tries(1) behind " + start + " by " + number, fewest, x.tries(1));
            }
        }
    }

    /** Sees v become each number that the rooms which fit yet make of it; all is as it was then. */
    private static int mostLeft(FurnitureCure x, int v, int[] hourLater) {
        int most = 0;
        int last = NONE;
        int fit = x.does(-1);
        for (int i = 0; i < fit; i++) {
            int w = hourLater[x.does(i) - 5];
            if (w != last) {
                x.seen(v, 1, w);
                most = Math.max(most, x.does(-1));
                x.restore(0);
            }
            last = w;
        }
        return most;
    }

    /** A mean times 10 to the m-th, from its two parts. */
    private static long whole(long upper, long lower, int m) {
        long scale = powerOfTen(m);
        CHECK.holds("the lower number " + lower + " goes into " + scale, lower > 0 && scale % lower == 0);
        return upper * (scale / Math.max(1, lower));
    }

    /** "HOME: .. what one has in the mean, doing best; whether it is sent at once", "from the last one back". */
    private static void homeFromTheLastOneBack() {
        for (int t = 0; t <= 10; t++) {
            for (int c = 0; c <= 9; c++) {
                long[] next = null;
                for (int m = 0; m <= 9; m++) {
                    next = homeWithDays(m, t, c, next);
                }
            }
        }
    }

    private static long[] homeWithDays(int m, int t, int c, long[] next) {
        FurnitureCure x = new FurnitureCure();
        long[] means = new long[10];
        for (int n = 0; n <= 9; n++) {
            long sent = (10L - n) * powerOfTen(m);
            long kept = next == null ? sent : t * next[n == 0 ? 0 : n - 1] + (10 - t) * next[n == 9 ? 9 : n + 1]
                    - (long) c * powerOfTen(m);
            String call = "home(" + n + ", " + m + ", " + t + ", " + c;
            means[n] = whole(x.home(n, m, t, c, 0, 0), x.home(n, m, t, c, 0, 1), m);
            CHECK.due(call + ", 0, ..)", Math.max(sent, kept), means[n]);
            CHECK.due(call + ", 1, 0)", sent >= kept ? 1 : 0, x.home(n, m, t, c, 1, 0));
            CHECK.due(call + ", 1, 1)", sent >= kept ? 1 : 0, x.home(n, m, t, c, 1, 1));
        }
        return means;
    }

    /** "BILL: c coins .. are shared by who is there by ILLS, all together, and 1 each: each so much .. (cut)". */
    private static void billIsShared() {
        int[] coins = {0, 1, 2, 3, 4, 5, 7, 31, 100, 997, 5000, 9998, 9999};
        for (int seed = 0; seed < HOUSES; seed++) {
            FurnitureCure x = drawn(seed);
            int there = x.told(1);
            int total = 0;
            for (int piece = 0; piece < 6; piece++) {
                total += isIn(there, piece) ? illsOf(x, piece) + 1 : 0;
            }
            for (int c : coins) {
                int sum = 0;
                for (int piece = 0; piece < 6; piece++) {
                    int pays = x.bill(c, piece);
                    if (isIn(there, piece)) {
                        int cut = c * (illsOf(x, piece) + 1) / total;
                        CHECK.holds("bill(" + c + ", " + piece + ") of house " + seed, pays == cut || pays == cut + 1);
                        sum += pays;
                    } else {
                        CHECK.due("bill(" + c + ", " + piece + ") of house " + seed, UNKNOWN, pays);
                    }
                }
                CHECK.due("all of " + c + " is shared in house " + seed, there == 0 ? 0 : c, sum);
            }
        }
    }

    /** "in m hours .. 1 DAMP more with t tenths .. in each, besides what its ROOM DOES (.. by the hour)". */
    private static void draughtsByTheHour() {
        int[] hours = {1, 2, 5, 9};
        int[] damps = {0, 1, 7, 19, 20};
        for (int does = -5; does <= 5; does++) {
            for (int t = 0; t <= 10; t++) {
                for (int m : hours) {
                    for (int damp : damps) {
                        draughtsOfFirstHour(does, t, m, damp);
                    }
                }
            }
        }
    }

    private static void draughtsOfFirstHour(int does, int t, int m, int damp) {
        FurnitureCure x = Houses.withOne(1, 0, 0, damp);
        x.room(0, 2, does);
        int[] levels = {0, 1, 6, 10, 19, 20};
        int dry = Math.min(20, Math.max(0, damp + does));
        int wet = Math.min(20, Math.max(0, damp + does + 1));
        for (int v : levels) {
            x.piece(1, 0, 0, damp);
            long chance = whole(x.draughts(1, m, t, v, 0), x.draughts(1, m, t, v, 1), m);
            x.piece(1, 0, 0, dry);
            long ifDry = whole(x.draughts(1, m - 1, t, v, 0), x.draughts(1, m - 1, t, v, 1), m - 1);
            x.piece(1, 0, 0, wet);
            long ifWet = whole(x.draughts(1, m - 1, t, v, 0), x.draughts(1, m - 1, t, v, 1), m - 1);
            CHECK.due("draughts of " + damp + " by " + does + " with " + t + " in " + m + ", " + v + " at most",
                    t * ifWet + (10 - t) * ifDry, chance);
        }
    }

    /** "A WEEK by a seed .. of m ACTS .., from all as it is .., each if that can be": the same acts by the pad. */
    private static void weekByActs() {
        for (int seed = 0; seed < HOUSES; seed++) {
            FurnitureCure x = drawnAndSatIn(seed);
            FurnitureCure y = drawnAndSatIn(seed);
            int draw = seed * 83;
            int m = 1 + seed * 7 % 60;
            int drawnNumber = draw;
            for (int i = 0; i < m; i++) {
                drawnNumber = (75 * drawnNumber + 74) % 65537;
                int kind = drawnNumber % 8;
                String piece = "" + letter(drawnNumber / 8 % 6);
                String aim = kind < 6 ? "!" : "" + roomLetter(drawnNumber / 48 % 4);
                Houses.act(y, kind < 4 ? "." : piece + aim);
            }
            int ills = 0;
            for (int piece = 0; piece < 6; piece++) {
                ills += isIn(y.told(1), piece) ? illsOf(y, piece) : 0;
            }
            CHECK.due("week(" + draw + ", " + m + ", 0) of house " + seed, ills, x.week(draw, m, 0));
            CHECK.due("week(" + draw + ", " + m + ", 1) of house " + seed, Integer.bitCount(y.well()),
                    x.week(draw, m, 1));
            CHECK.due("week(" + draw + ", " + m + ", 2) of house " + seed, y.told(2), x.week(draw, m, 2));
            CHECK.due("no hour passes in fact in house " + seed, 0, x.told(2));
        }
    }
}
