import java.util.Random;

/** Runs of calls, drawn by fixed seeds, on the class and on the model side by side. */
public final class RandomRunsTest {
    private static final Check CHECK = new Check("RandomRunsTest");
    private static final int RUNS = 1500;
    private static final int CALLS = 512;
    private static final String[] NAMES = {"piece", "leave", "room", "bad", "guest", "say", "wipe", "fault", "judge",
        "done", "behind", "worse", "well", "stays", "alone", "all", "ways", "rooms", "seats", "seen", "forget", "does",
        "tries", "home", "bill", "draughts", "week", "image", "restore", "told"};
    private static final int PIECE = 0, ROOM = 2, SAY = 5, WIPE = 6;
    /** How often each is drawn; those that are slow in the model, and those that undo much, seldom. */
    private static final int[] WEIGHTS = {12, 3, 12, 20, 20, 80, 4, 20, 40,
        60, 60, 50, 20, 30, 30, 1, 6, 4, 10, 12, 4, 20,
        12, 8, 20, 10, 20, 6, 5, 60};

    private final Random random;
    private final FurnitureCure x = new FurnitureCure();
    private final Model y = new Model();
    private final int run;

    private RandomRunsTest(int run) {
        this.run = run;
        this.random = new Random(run);
    }

    public static void main(String[] args) {
        for (int run = 0; run < RUNS && !CHECK.anyWrong(); run++) {
            new RandomRunsTest(run).calls();
        }
        CHECK.end();
    }

    private void calls() {
        int left = CALLS;
        if (run % 4 != 0) {
            left -= furnish();
        }
        while (left > 0) {
            int op = draw();
            if (op == SAY) {
                left -= sayCures(left);
            } else {
                call(op, arguments(op));
                left--;
            }
        }
    }

    /** A house where much gets better, so that cures and rooms have something to tell. */
    private int furnish() {
        int calls = 0;
        for (int piece = 0; piece < 6; piece++) {
            if (random.nextInt(4) != 0) {
                call(PIECE, new int[] {piece, random.nextInt(6), random.nextInt(6), random.nextInt(6)});
                calls++;
            }
        }
        for (int place = 0; place < 12; place++) {
            call(ROOM, new int[] {place / 3, place % 3, 1 - random.nextInt(6)});
            calls++;
        }
        return calls;
    }

    private int draw() {
        int sum = 0;
        for (int weight : WEIGHTS) {
            sum += weight;
        }
        int at = random.nextInt(sum);
        int op = 0;
        while (at >= WEIGHTS[op]) {
            at -= WEIGHTS[op];
            op++;
        }
        return op;
    }

    /** Mostly whole acts of pieces that are there, behind those on the pad or on a clean one. */
    private int sayCures(int left) {
        int said = 0;
        if (random.nextInt(2) == 0) {
            call(WIPE, new int[0]);
            said++;
        }
        StringBuilder text = new StringBuilder();
        int acts = 1 + random.nextInt(5);
        for (int i = 0; i < acts; i++) {
            text.append(cureAct());
        }
        for (int i = 0; i < text.length() && said < left; i++) {
            call(SAY, new int[] {text.charAt(i)});
            said++;
        }
        return said;
    }

    private String cureAct() {
        if (random.nextInt(60) == 0) {
            return "" + (char) (30 + random.nextInt(100));
        }
        if (random.nextInt(3) != 0) {
            return random.nextInt(30) == 0 ? "........................" : ".";
        }
        int piece = random.nextInt(6);
        for (int i = 0; i < 4 && (y.told(1) >> piece & 1) == 0; i++) {
            piece = random.nextInt(6);
        }
        return "" + (char) ('A' + piece) + "abcd!!".charAt(random.nextInt(6));
    }

    /** Mostly from the range; sometimes just beside it or far away. */
    private int number(int least, int most) {
        int kind = random.nextInt(60);
        if (kind == 0) {
            return least - 1;
        }
        if (kind == 1) {
            return most + 1;
        }
        if (kind == 2) {
            return random.nextInt();
        }
        return least + random.nextInt(most - least + 1);
    }

    private int ill() {
        return random.nextInt(3) == 0 ? number(0, 20) : number(0, 4);
    }

    private int does() {
        return random.nextInt(3) == 0 ? number(-5, 5) : number(-4, 0);
    }

    private int twos() {
        return number(0, 32767) & number(0, 32767) & number(0, 32767);
    }

    private int[] arguments(int op) {
        switch (NAMES[op]) {
            case "piece":
                return new int[] {number(0, 5), ill(), ill(), ill()};
            case "leave":
            case "stays":
                return new int[] {number(0, 5)};
            case "room":
                return new int[] {number(0, 3), number(0, 2), does()};
            case "bad":
                return new int[] {number(0, 5), number(0, 5), number(-3, 3)};
            case "guest":
                return new int[] {number(0, 5), number(0, 63) & number(0, 63)};
            case "behind":
                return new int[] {number(0, 5), number(0, 3)};
            case "alone":
                return new int[] {number(0, 5), number(0, 1)};
            case "judge":
            case "worse":
            case "all":
            case "tries":
            case "image":
            case "restore":
                return new int[] {number(0, 1)};
            case "ways":
                return new int[] {twos(), twos(), number(1, 4)};
            case "rooms":
                return new int[] {twos(), twos()};
            case "seats":
                return new int[] {number(-1, 5)};
            case "seen":
                return sight();
            case "does":
                return new int[] {number(-1, 11)};
            case "home":
                return new int[] {number(0, 9), number(0, 9), number(0, 10),
                    random.nextInt(2) * number(0, 9), number(0, 1), number(0, 1)};
            case "bill":
                return new int[] {random.nextInt(2) == 0 ? number(0, 40) : number(0, 9999), number(0, 5)};
            case "draughts":
                return new int[] {number(0, 5), number(0, 9), number(0, 10), number(0, 20), number(0, 1)};
            case "week":
                return new int[] {number(0, 9999), number(1, 99), number(0, 2)};
            case "told":
                return new int[] {told()};
            default:
                return new int[0];
        }
    }

    /** Mostly one that some number makes so, the same number in a whole run. */
    private int[] sight() {
        int v = number(0, 20);
        int m = number(1, 9);
        int w = v;
        for (int hour = 0; hour < m && hour < 9; hour++) {
            w = Math.min(20, Math.max(0, w + run % 11 - 5));
        }
        return new int[] {v, m, random.nextInt(8) == 0 ? number(0, 20) : w};
    }

    private int told() {
        switch (random.nextInt(6)) {
            case 0:
                return number(0, 4);
            case 1:
                return 10 * number(1, 6) + number(0, 3);
            case 2:
                return 100 * number(1, 4) + number(0, 2);
            case 3:
                return number(500, 535);
            case 4:
                return number(600, 605);
            default:
                return random.nextInt(700);
        }
    }

    private void call(int op, int[] a) {
        StringBuilder call = new StringBuilder("run " + run + ": " + NAMES[op]);
        for (int each : a) {
            call.append(' ').append(each);
        }
        CHECK.due(call.toString(), ofModel(NAMES[op], a), ofClass(NAMES[op], a));
    }

    private long ofClass(String name, int[] a) {
        switch (name) {
            case "piece": return x.piece(a[0], a[1], a[2], a[3]);
            case "leave": return x.leave(a[0]);
            case "room": return x.room(a[0], a[1], a[2]);
            case "bad": return x.bad(a[0], a[1], a[2]);
            case "guest": return x.guest(a[0], a[1]);
            case "say": return x.say(a[0]);
            case "wipe": return x.wipe();
            case "fault": return x.fault();
            case "judge": return x.judge(a[0]);
            case "done": return x.done();
            case "behind": return x.behind(a[0], a[1]);
            case "worse": return x.worse(a[0]);
            case "well": return x.well();
            case "stays": return x.stays(a[0]);
            case "alone": return x.alone(a[0], a[1]);
            case "all": return x.all(a[0]);
            case "ways": return x.ways(a[0], a[1], a[2]);
            case "rooms": return x.rooms(a[0], a[1]);
            case "seats": return x.seats(a[0]);
            case "seen": return x.seen(a[0], a[1], a[2]);
            case "forget": return x.forget();
            case "does": return x.does(a[0]);
            case "tries": return x.tries(a[0]);
            case "home": return x.home(a[0], a[1], a[2], a[3], a[4], a[5]);
            case "bill": return x.bill(a[0], a[1]);
            case "draughts": return x.draughts(a[0], a[1], a[2], a[3], a[4]);
            case "week": return x.week(a[0], a[1], a[2]);
            case "image": return x.image(a[0]);
            case "restore": return x.restore(a[0]);
            default: return x.told(a[0]);
        }
    }

    private long ofModel(String name, int[] a) {
        switch (name) {
            case "piece": return y.piece(a[0], a[1], a[2], a[3]);
            case "leave": return y.leave(a[0]);
            case "room": return y.room(a[0], a[1], a[2]);
            case "bad": return y.bad(a[0], a[1], a[2]);
            case "guest": return y.guest(a[0], a[1]);
            case "say": return y.say(a[0]);
            case "wipe": return y.wipe();
            case "fault": return y.fault();
            case "judge": return y.judge(a[0]);
            case "done": return y.done();
            case "behind": return y.behind(a[0], a[1]);
            case "worse": return y.worse(a[0]);
            case "well": return y.well();
            case "stays": return y.stays(a[0]);
            case "alone": return y.alone(a[0], a[1]);
            case "all": return y.all(a[0]);
            case "ways": return y.ways(a[0], a[1], a[2]);
            case "rooms": return y.rooms(a[0], a[1]);
            case "seats": return y.seats(a[0]);
            case "seen": return y.seen(a[0], a[1], a[2]);
            case "forget": return y.forget();
            case "does": return y.does(a[0]);
            case "tries": return y.tries(a[0]);
            case "home": return y.home(a[0], a[1], a[2], a[3], a[4], a[5]);
            case "bill": return y.bill(a[0], a[1]);
            case "draughts": return y.draughts(a[0], a[1], a[2], a[3], a[4]);
            case "week": return y.week(a[0], a[1], a[2]);
            case "image": return y.image(a[0]);
            case "restore": return y.restore(a[0]);
            default: return y.told(a[0]);
        }
    }
}
