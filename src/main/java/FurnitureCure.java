/** The house by the spa where furniture takes the cure; README.md tells how it is used. */
public final class FurnitureCure {
    public static final int NONE = -6, UNKNOWN = -1, OUTSIDE = -2, STATE = -3, FULL = -4, NO = -5;
    public static final long LOST = -1000000000000000000L;

    private static final int PIECES = 6;
    private static final int ROOMS = 4;
    private static final int ILLS = 3;
    private static final int GUESTS = 6;
    private static final int IMAGES = 2;
    private static final int PIECE_SETS = 1 << PIECES;
    private static final int PAIR_SETS = 1 << PIECES * (PIECES - 1) / 2;

    private static final int CREAKS = 0;
    private static final int NERVES = 1;
    private static final int DAMP = 2;
    private static final int MOST_ILL = 20;
    private static final int MOST_DONE = 5;
    private static final int MOST_BAD = 3;
    private static final int LAST_HOUR = 99;
    private static final int SEAT_HELPS = 2;

    /** What may be below 0 is told with this added, so that no answer looks like a refusal. */
    private static final int LIFT = 10;

    /** An ACT's aim is a ROOM to be walked to, or one of these two. */
    private static final int SEAT = ROOMS;
    private static final int HOUR = ROOMS + 1;

    private static final int NO_PIECE = -1;
    private static final int NEVER = 1000;
    private static final int STAYS_MOST = 60;
    private static final int ALL_MOST = 20;
    private static final int ABSENT_DIGIT = 4;

    private static final int TENTHS = 10;
    private static final int MOST_DAYS = 9;
    private static final int MOST_DRAUGHTY_HOURS = 9;
    private static final int MOST_GRADE = 9;
    private static final int MOST_COST = 9;
    private static final int PAID_FOR_WELL = 10;
    private static final int MOST_COINS = 9999;
    private static final int MOST_SEED = 9999;
    private static final int MOST_DRAWS = 99;

    private final House house = new House();
    private final House[] images = new House[IMAGES];
    private final Pad pad = new Pad();
    private final Trial trial = new Trial();
    private final Placing placing = new Placing();
    private final Seating seating = new Seating();
    private final Chance chance = new Chance();

    public FurnitureCure() {
    }

    // ---- 1 pieces, rooms, cures

    public int piece(int piece, int creaks, int nerves, int damp) {
        if (!isAmong(piece, PIECES)) {
            return UNKNOWN;
        }
        if (!isBetween(creaks, 0, MOST_ILL) || !isBetween(nerves, 0, MOST_ILL) || !isBetween(damp, 0, MOST_ILL)) {
            return OUTSIDE;
        }
        house.admit(piece, creaks, nerves, damp);
        return Integer.bitCount(house.there);
    }

    public int leave(int piece) {
        if (!house.isThere(piece)) {
            return UNKNOWN;
        }
        house.send(piece);
        return Integer.bitCount(house.there);
    }

    public int room(int room, int ill, int v) {
        if (!isAmong(room, ROOMS)) {
            return UNKNOWN;
        }
        if (!isAmong(ill, ILLS) || !isBetween(v, -MOST_DONE, MOST_DONE)) {
            return OUTSIDE;
        }
        int place = room * ILLS + ill;
        int before = house.effects[place];
        house.effects[place] = v;
        return before + LIFT;
    }

    public int bad(int piece, int other, int v) {
        if (!isAmong(piece, PIECES) || !isAmong(other, PIECES) || piece == other) {
            return UNKNOWN;
        }
        if (!isBetween(v, -MOST_BAD, MOST_BAD)) {
            return OUTSIDE;
        }
        int place = piece * PIECES + other;
        int before = house.badFor[place];
        house.badFor[place] = v;
        return before + LIFT;
    }

    public int guest(int guest, int pieces) {
        if (!isAmong(guest, GUESTS)) {
            return UNKNOWN;
        }
        if (!isAmong(pieces, PIECE_SETS)) {
            return OUTSIDE;
        }
        int before = house.likes[guest];
        house.likes[guest] = pieces;
        return before;
    }

    public int say(int sign) {
        if (!isBetween(sign, Pad.LEAST_SIGN, Pad.MOST_SIGN)) {
            return OUTSIDE;
        }
        if (pad.isFull()) {
            return FULL;
        }
        pad.write(sign);
        return pad.length;
    }

    public int wipe() {
        int before = pad.length;
        pad.length = 0;
        return before;
    }

    public int fault() {
        return pad.firstFault();
    }

    // ---- 2 cures

    public int judge(int what) {
        if (!isAmong(what, 2)) {
            return OUTSIDE;
        }
        if (pad.firstFault() != NONE) {
            return NO;
        }
        trial.follow(pad, house);
        if (trial.why == 0) {
            return NONE;
        }
        return what == 0 ? trial.acts : trial.why;
    }

    public int done() {
        if (!canBeDone()) {
            return NO;
        }
        house.takeFrom(trial.house);
        pad.length = 0;
        return trial.acts;
    }

    public int behind(int piece, int what) {
        if (!house.isThere(piece)) {
            return UNKNOWN;
        }
        if (!isAmong(what, ILLS + 1)) {
            return OUTSIDE;
        }
        if (!canBeDone()) {
            return NO;
        }
        return trial.house.tellOf(piece, what);
    }

    public int worse(int what) {
        if (!isAmong(what, 2)) {
            return OUTSIDE;
        }
        if (!canBeDone()) {
            return NO;
        }
        return what == 0 ? trial.worseHour : trial.worsePiece;
    }

    public int well() {
        return house.wellPieces();
    }

    public int stays(int piece) {
        if (!house.isThere(piece)) {
            return UNKNOWN;
        }
        int hours = house.hoursStaying(piece);
        return hours <= STAYS_MOST ? hours : NONE;
    }

    /** Leaves in the trial all as it is behind the cures, if they can be DONE. */
    private boolean canBeDone() {
        if (pad.firstFault() != NONE) {
            return false;
        }
        trial.follow(pad, house);
        return trial.why == 0;
    }

    // ---- 3 rooms, seats

    public int alone(int piece, int what) {
        if (!house.isThere(piece)) {
            return UNKNOWN;
        }
        if (!isAmong(what, 2)) {
            return OUTSIDE;
        }
        int best = 0;
        int soonest = house.hoursAlone(piece, 0);
        for (int room = 1; room < ROOMS; room++) {
            int hours = house.hoursAlone(piece, room);
            if (hours < soonest) {
                soonest = hours;
                best = room;
            }
        }
        if (soonest > STAYS_MOST) {
            return NONE;
        }
        return what == 0 ? best : soonest;
    }

    public int all(int what) {
        if (!isAmong(what, 2)) {
            return OUTSIDE;
        }
        placing.findSoonest(house);
        if (placing.hours > ALL_MOST) {
            return NONE;
        }
        return what == 0 ? placing.hours : placing.number;
    }

    public int ways(int apart, int together, int n) {
        if (!isAmong(apart, PAIR_SETS) || !isAmong(together, PAIR_SETS) || !isBetween(n, 1, ROOMS)) {
            return OUTSIDE;
        }
        return placing.countWays(house.there, apart, together, n);
    }

    public int rooms(int apart, int together) {
        if (!isAmong(apart, PAIR_SETS) || !isAmong(together, PAIR_SETS)) {
            return OUTSIDE;
        }
        for (int n = 1; n <= ROOMS; n++) {
            if (placing.countWays(house.there, apart, together, n) > 0) {
                return n;
            }
        }
        return NONE;
    }

    public int seats(int guest) {
        if (!isBetween(guest, -1, GUESTS - 1)) {
            return UNKNOWN;
        }
        seating.weigh(house);
        return guest == -1 ? seating.mostSeated() : seating.seatOf(guest, house);
    }

    // ---- 4 what a room does, days, bills

    public int seen(int v, int m, int w) {
        if (!isBetween(v, 0, MOST_ILL) || !isBetween(m, 1, Sights.MOST_HOURS) || !isBetween(w, 0, MOST_ILL)) {
            return OUTSIDE;
        }
        if (house.sights.isFull()) {
            return FULL;
        }
        house.sights.note(v, m, w);
        return house.sights.count;
    }

    public int forget() {
        int before = house.sights.count;
        house.sights.count = 0;
        return before;
    }

    public int does(int i) {
        int fitting = house.sights.fitting();
        if (i == -1) {
            return Integer.bitCount(fitting);
        }
        int passed = 0;
        for (int number = -MOST_DONE; number <= MOST_DONE; number++) {
            if ((fitting >> number + MOST_DONE & 1) == 1) {
                if (passed == i) {
                    return number + LIFT;
                }
                passed++;
            }
        }
        return NONE;
    }

    public int tries(int what) {
        if (!isAmong(what, 2)) {
            return OUTSIDE;
        }
        int fitting = house.sights.fitting();
        if (fitting == 0) {
            return NONE;
        }
        int best = 0;
        int fewest = mostLeft(0, fitting);
        for (int v = 1; v <= MOST_ILL; v++) {
            int left = mostLeft(v, fitting);
            if (left < fewest) {
                fewest = left;
                best = v;
            }
        }
        return what == 0 ? best : fewest;
    }

    /** How many of the fitting numbers are left at the most when v is tried for an hour. */
    private static int mostLeft(int v, int fitting) {
        int most = 0;
        int run = 0;
        int last = -1;
        for (int number = -MOST_DONE; number <= MOST_DONE; number++) {
            if ((fitting >> number + MOST_DONE & 1) == 1) {
                int w = withinIll(v + number);
                // What comes out never falls as the number grows, so equal ones follow one another.
                run = w == last ? run + 1 : 1;
                last = w;
                most = Math.max(most, run);
            }
        }
        return most;
    }

    public long home(int ills, int m, int t, int c, int what, int part) {
        if (!isBetween(ills, 0, MOST_GRADE) || !isBetween(m, 0, MOST_DAYS) || !isBetween(t, 0, TENTHS)
                || !isBetween(c, 0, MOST_COST) || !isAmong(what, 2) || !isAmong(part, 2)) {
            return LOST + OUTSIDE;
        }
        chance.weighDays(m, t, c);
        if (what == 1) {
            return chance.isSentAtOnce(ills) ? 1 : 0;
        }
        return chance.meanFor(ills, part);
    }

    public int bill(int c, int piece) {
        if (!house.isThere(piece)) {
            return UNKNOWN;
        }
        if (!isBetween(c, 0, MOST_COINS)) {
            return OUTSIDE;
        }
        return house.shareOf(c, piece);
    }

    public long draughts(int piece, int m, int t, int v, int part) {
        if (!house.isThere(piece)) {
            return LOST + UNKNOWN;
        }
        if (!isBetween(m, 0, MOST_DRAUGHTY_HOURS) || !isBetween(t, 0, TENTHS) || !isBetween(v, 0, MOST_ILL)
                || !isAmong(part, 2)) {
            return LOST + OUTSIDE;
        }
        chance.spreadDamp(house.illOf(piece, DAMP), house.effectOn(piece, DAMP), m, t);
        return chance.atMost(v, part);
    }

    public int week(int seed, int m, int what) {
        if (!isBetween(seed, 0, MOST_SEED) || !isBetween(m, 1, MOST_DRAWS) || !isAmong(what, 3)) {
            return OUTSIDE;
        }
        trial.drift(house, seed, m);
        if (what == 0) {
            return trial.house.illsOfAll();
        }
        return what == 1 ? Integer.bitCount(trial.house.wellPieces()) : trial.hours;
    }

    public int image(int n) {
        if (!isAmong(n, IMAGES)) {
            return OUTSIDE;
        }
        House kept = images[n];
        if (kept == null) {
            kept = new House();
            images[n] = kept;
        }
        kept.takeFrom(house);
        return 1;
    }

    public int restore(int n) {
        if (!isAmong(n, IMAGES)) {
            return OUTSIDE;
        }
        House kept = images[n];
        if (kept == null) {
            return STATE;
        }
        house.takeFrom(kept);
        return 1;
    }

    public int told(int what) {
        if (what < 10) {
            return tellCounts(what);
        }
        if (what < 100) {
            return tellPiece(what / 10 - 1, what % 10);
        }
        if (what < 500) {
            return tellRoom(what / 100 - 1, what % 100);
        }
        if (what < 600) {
            return tellBad((what - 500) / PIECES, (what - 500) % PIECES);
        }
        return isAmong(what - 600, GUESTS) ? house.likes[what - 600] : OUTSIDE;
    }

    private int tellCounts(int what) {
        switch (what) {
            case 0:
                return pad.length;
            case 1:
                return house.there;
            case 2:
                return house.hour;
            case 3:
                return house.sights.count;
            case 4:
                return house.sat;
            default:
                return OUTSIDE;
        }
    }

    private int tellPiece(int piece, int what) {
        return house.isThere(piece) && isAmong(what, ILLS + 1) ? house.tellOf(piece, what) : OUTSIDE;
    }

    private int tellRoom(int room, int ill) {
        return isAmong(room, ROOMS) && isAmong(ill, ILLS) ? house.effects[room * ILLS + ill] + LIFT : OUTSIDE;
    }

    private int tellBad(int piece, int other) {
        if (!isAmong(piece, PIECES) || !isAmong(other, PIECES) || piece == other) {
            return OUTSIDE;
        }
        return house.badFor[piece * PIECES + other] + LIFT;
    }

    // ---- numbers

    private static boolean isAmong(int number, int count) {
        return number >= 0 && number < count;
    }

    private static boolean isBetween(int number, int least, int most) {
        return number >= least && number <= most;
    }

    private static int withinIll(int v) {
        if (v < 0) {
            return 0;
        }
        return v > MOST_ILL ? MOST_ILL : v;
    }

    /**
     * Hours behind which an ILL is gone and stays so, having the same change in each hour.
     * An ILL of 0 that grows is gone now alone: whoever asks looks at now by itself.
     */
    private static int hoursUntilGone(int v, int change) {
        if (v == 0 && change <= 0) {
            return 0;
        }
        if (change >= 0) {
            return NEVER;
        }
        return (v - change - 1) / -change;
    }

    /** The pieces that are there and how they are, and all else that an IMAGE keeps. */
    private static final class House {
        int there;
        int sat;
        int hour;
        final int[] ills = new int[PIECES * ILLS];
        final int[] roomOf = new int[PIECES];
        final int[] effects = new int[ROOMS * ILLS];
        final int[] badFor = new int[PIECES * PIECES];
        final int[] likes = new int[GUESTS];
        final Sights sights = new Sights();

        void takeFrom(House other) {
            there = other.there;
            sat = other.sat;
            hour = other.hour;
            System.arraycopy(other.ills, 0, ills, 0, PIECES * ILLS);
            System.arraycopy(other.roomOf, 0, roomOf, 0, PIECES);
            System.arraycopy(other.effects, 0, effects, 0, ROOMS * ILLS);
            System.arraycopy(other.badFor, 0, badFor, 0, PIECES * PIECES);
            System.arraycopy(other.likes, 0, likes, 0, GUESTS);
            sights.copyFrom(other.sights);
        }

        boolean isThere(int piece) {
            return piece >= 0 && piece < PIECES && (there >> piece & 1) == 1;
        }

        boolean isSatIn(int piece) {
            return (sat >> piece & 1) == 1;
        }

        /** A piece that comes anew is another one in its place: nobody sits in it yet. */
        void admit(int piece, int creaks, int nerves, int damp) {
            there |= 1 << piece;
            sat &= ~(1 << piece);
            roomOf[piece] = 0;
            ills[piece * ILLS + CREAKS] = creaks;
            ills[piece * ILLS + NERVES] = nerves;
            ills[piece * ILLS + DAMP] = damp;
        }

        /** Who sat in it can not go on sitting in what is not there. */
        void send(int piece) {
            there &= ~(1 << piece);
            sat &= ~(1 << piece);
        }

        int illOf(int piece, int ill) {
            return ills[piece * ILLS + ill];
        }

        int illsOf(int piece) {
            return illOf(piece, CREAKS) + illOf(piece, NERVES) + illOf(piece, DAMP);
        }

        int tellOf(int piece, int what) {
            return what < ILLS ? illOf(piece, what) : roomOf[piece];
        }

        int effectOn(int piece, int ill) {
            return effects[roomOf[piece] * ILLS + ill];
        }

        int illsOfAll() {
            int sum = 0;
            for (int piece = 0; piece < PIECES; piece++) {
                sum += isThere(piece) ? illsOf(piece) : 0;
            }
            return sum;
        }

        int wellPieces() {
            int set = 0;
            for (int piece = 0; piece < PIECES; piece++) {
                if (isThere(piece) && illsOf(piece) == 0) {
                    set |= 1 << piece;
                }
            }
            return set;
        }

        /** Why an ACT can not be, 0 if it can: the least reason comes first. */
        int reasonAgainst(int piece, int aim) {
            if (aim == HOUR) {
                return hour >= LAST_HOUR ? 4 : 0;
            }
            if (!isThere(piece)) {
                return 1;
            }
            if (aim != SEAT && roomOf[piece] == aim) {
                return 2;
            }
            return isSatIn(piece) ? 3 : 0;
        }

        /** For an ACT of a piece that has no reason against it. */
        void perform(int piece, int aim) {
            if (aim == SEAT) {
                sat |= 1 << piece;
            } else {
                roomOf[piece] = aim;
            }
        }

        /** Answers the least piece that is made worse, NONE if none is. */
        int passHour() {
            int worsened = NONE;
            for (int piece = PIECES - 1; piece >= 0; piece--) {
                if (isThere(piece)) {
                    int ahead = illsOf(piece);
                    passHourOf(piece);
                    worsened = illsOf(piece) > ahead ? piece : worsened;
                }
            }
            sat = 0;
            hour++;
            return worsened;
        }

        /** No change looks at the ILLS of another piece, so one by one is as good as all at once. */
        private void passHourOf(int piece) {
            int first = piece * ILLS;
            int together = withPieces(roomOf[piece]);
            for (int ill = 0; ill < ILLS; ill++) {
                ills[first + ill] = withinIll(ills[first + ill] + changeOf(piece, ill, roomOf[piece], together));
            }
            if (isSatIn(piece)) {
                ills[first + CREAKS] = withinIll(ills[first + CREAKS] - SEAT_HELPS);
            }
        }

        private int withPieces(int room) {
            int set = 0;
            for (int piece = 0; piece < PIECES; piece++) {
                if ((there >> piece & 1) == 1 && roomOf[piece] == room) {
                    set |= 1 << piece;
                }
            }
            return set;
        }

        /** What an hour in a room with a set of pieces changes; a piece is never bad for itself. */
        private int changeOf(int piece, int ill, int room, int set) {
            int change = effects[room * ILLS + ill];
            if (ill == NERVES) {
                for (int other = 0; other < PIECES; other++) {
                    change += (set >> other & 1) * badFor[other * PIECES + piece];
                }
            }
            return change;
        }

        /** Hours until all ILLS are gone for good, the piece staying in a room with a set of pieces. */
        int hoursToLoseAll(int piece, int room, int set) {
            int longest = 0;
            for (int ill = 0; ill < ILLS; ill++) {
                int hours = hoursUntilGone(illOf(piece, ill), changeOf(piece, ill, room, set));
                longest = Math.max(longest, hours);
            }
            return longest;
        }

        int hoursStaying(int piece) {
            int room = roomOf[piece];
            return illsOf(piece) == 0 ? 0 : hoursToLoseAll(piece, room, withPieces(room));
        }

        int hoursAlone(int piece, int room) {
            return illsOf(piece) == 0 ? 0 : hoursToLoseAll(piece, room, 0);
        }

        int shareOf(int coins, int piece) {
            int total = illsOfAll() + Integer.bitCount(there);
            int left = coins;
            int ahead = 0;
            for (int other = 0; other < PIECES; other++) {
                if (isThere(other)) {
                    left -= cutShare(coins, illsOf(other) + 1, total);
                    ahead += paysAhead(other, piece) ? 1 : 0;
                }
            }
            return cutShare(coins, illsOf(piece) + 1, total) + (ahead < left ? 1 : 0);
        }

        private boolean paysAhead(int other, int piece) {
            return illsOf(other) > illsOf(piece) || illsOf(other) == illsOf(piece) && other < piece;
        }

        private static int cutShare(int coins, int weight, int total) {
            return total < 1 ? 0 : coins * weight / total;
        }
    }

    /** What was seen of some room and some ill, and the numbers that it leaves. */
    private static final class Sights {
        static final int MOST_HOURS = 9;
        private static final int MOST = 8;

        int count;
        private final int[] before = new int[MOST];
        private final int[] hours = new int[MOST];
        private final int[] after = new int[MOST];

        void copyFrom(Sights other) {
            count = other.count;
            System.arraycopy(other.before, 0, before, 0, MOST);
            System.arraycopy(other.hours, 0, hours, 0, MOST);
            System.arraycopy(other.after, 0, after, 0, MOST);
        }

        boolean isFull() {
            return count >= MOST;
        }

        /** Only where there is place for one more. */
        void note(int v, int m, int w) {
            if (isFull()) {
                return;
            }
            before[count] = v;
            hours[count] = m;
            after[count] = w;
            count++;
        }

        /** The numbers by which all is so, as bits: -5 is bit 0. */
        int fitting() {
            int set = 0;
            for (int number = -MOST_DONE; number <= MOST_DONE; number++) {
                set |= fits(number) ? 1 << number + MOST_DONE : 0;
            }
            return set;
        }

        private boolean fits(int number) {
            for (int i = 0; i < count && i < MOST; i++) {
                if (laterIll(before[i], hours[i], number) != after[i]) {
                    return false;
                }
            }
            return true;
        }

        private static int laterIll(int v, int m, int number) {
            int later = v;
            for (int hour = 0; hour < m; hour++) {
                later = withinIll(later + number);
            }
            return later;
        }
    }

    /** The text of the cures. */
    private static final class Pad {
        static final int LEAST_SIGN = 33;
        static final int MOST_SIGN = 126;
        private static final int MOST = 60;

        int length;
        private final int[] signs = new int[MOST];

        boolean isFull() {
            return length >= MOST;
        }

        /** Only where there is place for one more. */
        void write(int sign) {
            if (isFull()) {
                return;
            }
            signs[length] = sign;
            length++;
        }

        int signAt(int place) {
            return isAmong(place, MOST) ? signs[place] : 0;
        }

        int firstFault() {
            boolean afterPiece = false;
            for (int place = 0; place < length; place++) {
                int sign = signAt(place);
                if (!(afterPiece ? isAimOfPiece(sign) : sign == '.' || isPiece(sign))) {
                    return place;
                }
                afterPiece = isPiece(sign);
            }
            return afterPiece ? length : NONE;
        }

        static boolean isPiece(int sign) {
            return sign >= 'A' && sign < 'A' + PIECES;
        }

        private static boolean isAimOfPiece(int sign) {
            return sign == '!' || sign >= 'a' && sign < 'a' + ROOMS;
        }

        /** For a sign that ends an ACT. */
        static int aimOf(int sign) {
            if (sign == '.') {
                return HOUR;
            }
            return sign == '!' ? SEAT : sign - 'a';
        }
    }

    /** ACTS tried on a copy of the house, so that nothing is DONE in fact. */
    private static final class Trial {
        private static final int DRAW_BY = 75;
        private static final int DRAW_AND = 74;
        private static final int DRAW_OVER = 65537;

        final House house = new House();
        int acts;
        int why;
        int hours;
        int worseHour;
        int worsePiece;

        /** Stops at the first ACT that can not be: acts is its place then, and why is not 0. */
        void follow(Pad pad, House from) {
            start(from);
            int piece = NO_PIECE;
            for (int place = 0; place < pad.length && why == 0; place++) {
                int sign = pad.signAt(place);
                if (Pad.isPiece(sign)) {
                    piece = sign - 'A';
                } else {
                    attempt(piece, Pad.aimOf(sign));
                }
            }
        }

        /** A WEEK by draws: an ACT that can not be is left out. */
        void drift(House from, int seed, int draws) {
            start(from);
            int x = seed;
            for (int draw = 0; draw < draws; draw++) {
                x = (DRAW_BY * x + DRAW_AND) % DRAW_OVER;
                attempt(x / 8 % PIECES, drawnAim(x));
            }
        }

        private static int drawnAim(int x) {
            int kind = x % 8;
            if (kind < 4) {
                return HOUR;
            }
            return kind < 6 ? SEAT : x / 48 % ROOMS;
        }

        private void start(House from) {
            house.takeFrom(from);
            acts = 0;
            why = 0;
            hours = 0;
            worseHour = NONE;
            worsePiece = NONE;
        }

        private void attempt(int piece, int aim) {
            why = house.reasonAgainst(piece, aim);
            if (why != 0) {
                return;
            }
            if (aim == HOUR) {
                noteHour(house.passHour());
            } else {
                house.perform(piece, aim);
            }
            acts++;
        }

        private void noteHour(int worsened) {
            if (worseHour == NONE && worsened != NONE) {
                worseHour = hours;
                worsePiece = worsened;
            }
            hours++;
        }
    }

    /** Those that are there put into rooms; who is where is told as sets, six bits a room. */
    private static final class Placing {
        int hours;
        int number;
        private final int[] needs = new int[ROOMS * PIECE_SETS];
        private final int[] apartFrom = new int[PIECES];
        private final int[] togetherWith = new int[PIECES];

        private static int setIn(int sets, int room) {
            return sets >> room * PIECES & PIECE_SETS - 1;
        }

        private static int join(int sets, int room, int piece) {
            return sets | 1 << room * PIECES + piece;
        }

        void findSoonest(House house) {
            hours = NEVER;
            number = 0;
            weighNeeds(house);
            placeFrom(house.there, 0, 0, 0);
        }

        /** Pieces look at no other room: each room is weighed once with each set of those that are there. */
        private void weighNeeds(House house) {
            boolean allWell = house.wellPieces() == house.there;
            for (int room = 0; room < ROOMS; room++) {
                for (int set = 0; set < PIECE_SETS; set++) {
                    if ((set & ~house.there) == 0) {
                        needs[room * PIECE_SETS + set] = allWell ? 0 : needOf(house, room, set);
                    }
                }
            }
        }

        private static int needOf(House house, int room, int set) {
            int longest = 0;
            for (int piece = 0; piece < PIECES; piece++) {
                if ((set >> piece & 1) == 1) {
                    longest = Math.max(longest, house.hoursToLoseAll(piece, room, set));
                }
            }
            return longest;
        }

        /** Numbers rise from way to way, so the first one of the soonest is the least. */
        private void placeFrom(int there, int piece, int sets, int digits) {
            if (piece >= PIECES) {
                weighWay(sets, digits);
            } else if ((there >> piece & 1) == 0) {
                placeFrom(there, piece + 1, sets, digits * 10 + ABSENT_DIGIT);
            } else {
                for (int room = 0; room < ROOMS && hours > 0; room++) {
                    placeFrom(there, piece + 1, join(sets, room, piece), digits * 10 + room);
                }
            }
        }

        private void weighWay(int sets, int digits) {
            int longest = 0;
            for (int room = 0; room < ROOMS; room++) {
                longest = Math.max(longest, needs[room * PIECE_SETS + setIn(sets, room)]);
            }
            if (longest < hours) {
                hours = longest;
                number = digits;
            }
        }

        int countWays(int there, int apart, int together, int n) {
            for (int piece = 0; piece < PIECES; piece++) {
                apartFrom[piece] = partnersBefore(piece, apart) & there;
                togetherWith[piece] = partnersBefore(piece, together) & there;
            }
            return waysFrom(there, n, 0, 0, 0);
        }

        private static int partnersBefore(int piece, int pairs) {
            int set = 0;
            for (int other = 0; other < piece; other++) {
                int pair = other * (2 * PIECES - 1 - other) / 2 + piece - other - 1;
                set |= (pairs >> pair & 1) << other;
            }
            return set;
        }

        /** Rooms that are still empty are alike: one of them is tried for all of them. */
        private int waysFrom(int there, int n, int piece, int sets, int used) {
            if (piece >= PIECES) {
                return 1;
            }
            if ((there >> piece & 1) == 0) {
                return waysFrom(there, n, piece + 1, sets, used);
            }
            int count = 0;
            for (int room = 0; room < used; room++) {
                if (suits(piece, setIn(sets, room))) {
                    count += waysFrom(there, n, piece + 1, join(sets, room, piece), used);
                }
            }
            if (used < n && suits(piece, 0)) {
                count += (n - used) * waysFrom(there, n, piece + 1, join(sets, used, piece), used + 1);
            }
            return count;
        }

        private boolean suits(int piece, int set) {
            return (apartFrom[piece] & set) == 0 && (togetherWith[piece] & ~set) == 0;
        }
    }

    /** Guests put to seats from the last one back: how many can sit yet, by who is next and what is taken. */
    private static final class Seating {
        private final int[] most = new int[(GUESTS + 1) * PIECE_SETS];

        void weigh(House house) {
            for (int guest = GUESTS - 1; guest >= 0; guest--) {
                int liked = house.likes[guest] & house.there;
                for (int taken = 0; taken < PIECE_SETS; taken++) {
                    most[guest * PIECE_SETS + taken] = mostFrom(guest, taken, liked);
                }
            }
        }

        private int mostFrom(int guest, int taken, int liked) {
            int next = (guest + 1) * PIECE_SETS;
            int best = most[next + taken];
            for (int piece = 0; piece < PIECES; piece++) {
                if (((liked & ~taken) >> piece & 1) == 1) {
                    best = Math.max(best, 1 + most[next + (taken | 1 << piece)]);
                }
            }
            return best;
        }

        int mostSeated() {
            return most[0];
        }

        int seatOf(int guest, House house) {
            int taken = 0;
            int seat = NONE;
            for (int each = 0; each <= guest; each++) {
                seat = leastSeat(each, taken, house.likes[each] & house.there);
                taken |= seat == NONE ? 0 : 1 << seat;
            }
            return seat;
        }

        private int leastSeat(int guest, int taken, int liked) {
            int next = (guest + 1) * PIECE_SETS;
            for (int piece = 0; piece < PIECES; piece++) {
                if (((liked & ~taken) >> piece & 1) == 1
                        && 1 + most[next + (taken | 1 << piece)] == most[guest * PIECE_SETS + taken]) {
                    return piece;
                }
            }
            return NONE;
        }
    }

    /** Means and chances as whole numbers over a power of ten, told in lowest terms. */
    private static final class Chance {
        private static final int MOST_STEPS = 100;

        private long[] row = new long[MOST_ILL + 1];
        private long[] nextRow = new long[MOST_ILL + 1];
        private long scale;

        /** From the last day back: row has what is best for each N with that many days yet. */
        void weighDays(int days, int tenths, int cost) {
            scale = 1;
            for (int n = 0; n <= MOST_GRADE; n++) {
                row[n] = PAID_FOR_WELL - n;
            }
            for (int day = 0; day < days; day++) {
                scale *= TENTHS;
                for (int n = 0; n <= MOST_GRADE; n++) {
                    long kept = tenths * row[Math.max(0, n - 1)]
                            + (TENTHS - tenths) * row[Math.min(MOST_GRADE, n + 1)] - cost * scale;
                    nextRow[n] = Math.max(kept, paidNow(n));
                }
                swapRows();
            }
        }

        private long paidNow(int n) {
            return (PAID_FOR_WELL - n) * scale;
        }

        boolean isSentAtOnce(int n) {
            return row[n] == paidNow(n);
        }

        long meanFor(int n, int part) {
            return partOf(row[n], part);
        }

        /** Row has how likely each DAMP is behind that many hours. */
        void spreadDamp(int damp, int effect, int hours, int tenths) {
            scale = 1;
            clearRow(row);
            row[damp] = 1;
            for (int hour = 0; hour < hours; hour++) {
                scale *= TENTHS;
                clearRow(nextRow);
                for (int d = 0; d <= MOST_ILL; d++) {
                    nextRow[withinIll(d + effect)] += (TENTHS - tenths) * row[d];
                    nextRow[withinIll(d + effect + 1)] += tenths * row[d];
                }
                swapRows();
            }
        }

        long atMost(int v, int part) {
            long sum = 0;
            for (int d = 0; d <= v; d++) {
                sum += row[d];
            }
            return partOf(sum, part);
        }

        private void swapRows() {
            long[] old = row;
            row = nextRow;
            nextRow = old;
        }

        private static void clearRow(long[] cleared) {
            for (int i = 0; i < cleared.length; i++) {
                cleared[i] = 0;
            }
        }

        private long partOf(long upper, int part) {
            long common = commonDivisor(Math.abs(upper), scale);
            if (common < 1) {
                return 0;
            }
            return part == 0 ? upper / common : scale / common;
        }

        private static long commonDivisor(long a, long b) {
            long larger = a;
            long smaller = b;
            for (int step = 0; step < MOST_STEPS && smaller != 0; step++) {
                long rest = larger % smaller;
                larger = smaller;
                smaller = rest;
            }
            return larger;
        }
    }
}
