/** Promises 1 to 9: a new object, pieces, rooms, guests and the pad. */
public final class PiecesTest {
    private static final Check CHECK = new Check("PiecesTest");

    public static void main(String[] args) {
        newObject();
        piece();
        leave();
        room();
        bad();
        guest();
        say();
        wipe();
        fault();
        refusedChangesNothing();
        CHECK.end();
    }

    private static void newObject() {
        FurnitureCure x = new FurnitureCure();
        for (int what = 0; what <= 4; what++) {
            CHECK.due("new told(" + what + ")", 0, x.told(what));
        }
        for (int piece = 0; piece < 6; piece++) {
            CHECK.due("new told of piece " + piece, -2, x.told(10 * (1 + piece)));
        }
        for (int room = 1; room <= 4; room++) {
            for (int ill = 0; ill < 3; ill++) {
                CHECK.due("new told of room " + room, 10, x.told(100 * room + ill));
            }
        }
        for (int pair = 0; pair < 36; pair++) {
            CHECK.due("new told(" + (500 + pair) + ")", pair / 6 == pair % 6 ? -2 : 10, x.told(500 + pair));
        }
        for (int guest = 0; guest < 6; guest++) {
            CHECK.due("new told of guest " + guest, 0, x.told(600 + guest));
        }
        CHECK.due("new restore(0)", -3, x.restore(0));
        CHECK.due("new restore(1)", -3, x.restore(1));
        FurnitureCure y = new FurnitureCure();
        y.piece(0, 1, 1, 1);
        CHECK.due("objects share nothing", 0, x.told(1));
    }

    private static void piece() {
        FurnitureCure x = new FurnitureCure();
        CHECK.due("piece(5, 20, 0, 7)", 1, x.piece(5, 20, 0, 7));
        CHECK.due("piece(2, 0, 20, 20)", 2, x.piece(2, 0, 20, 20));
        CHECK.due("bits", 36, x.told(1));
        CHECK.due("creaks", 20, x.told(60));
        CHECK.due("nerves", 0, x.told(61));
        CHECK.due("damp", 7, x.told(62));
        CHECK.due("room", 0, x.told(63));
        CHECK.due("walked and sat in", 2, Houses.act(x, "FcF!"));
        CHECK.due("room then", 2, x.told(63));
        CHECK.due("sat in", 32, x.told(4));
        CHECK.due("anew", 2, x.piece(5, 1, 2, 3));
        CHECK.due("room anew", 0, x.told(63));
        CHECK.due("creaks anew", 1, x.told(60));
        CHECK.due("nerves anew", 2, x.told(61));
        CHECK.due("damp anew", 3, x.told(62));
        CHECK.due("anew it is not sat in", 0, x.told(4));
        CHECK.due("piece(-1)", -1, x.piece(-1, 0, 0, 0));
        CHECK.due("piece(6)", -1, x.piece(6, 21, 0, 0));
        int[] beside = {-1, 21, Integer.MIN_VALUE, Integer.MAX_VALUE};
        for (int ill : beside) {
            CHECK.due("creaks " + ill, -2, x.piece(0, ill, 0, 0));
            CHECK.due("nerves " + ill, -2, x.piece(0, 0, ill, 0));
            CHECK.due("damp " + ill, -2, x.piece(0, 0, 0, ill));
        }
        CHECK.due("bits behind refusals", 36, x.told(1));
    }

    private static void leave() {
        FurnitureCure x = Houses.withTwo();
        x.bad(0, 1, 2);
        CHECK.due("leave(2)", -1, x.leave(2));
        CHECK.due("leave(-1)", -1, x.leave(-1));
        CHECK.due("leave(6)", -1, x.leave(6));
        CHECK.due("leave(32)", -1, x.leave(32));
        Houses.act(x, "A!B!");
        CHECK.due("sat in", 3, x.told(4));
        CHECK.due("leave(0)", 1, x.leave(0));
        CHECK.due("leave(0) again", -1, x.leave(0));
        CHECK.due("there", 2, x.told(1));
        CHECK.due("sat in then", 2, x.told(4));
        CHECK.due("how bad it is stays", 12, x.told(501));
        CHECK.due("leave(1)", 0, x.leave(1));
    }

    private static void room() {
        FurnitureCure x = new FurnitureCure();
        CHECK.due("room(3, 2, 5)", 10, x.room(3, 2, 5));
        CHECK.due("room(3, 2, -5)", 15, x.room(3, 2, -5));
        CHECK.due("room(3, 2, 0)", 5, x.room(3, 2, 0));
        CHECK.due("room(0, 0, 1)", 10, x.room(0, 0, 1));
        CHECK.due("told(100)", 11, x.told(100));
        CHECK.due("room(4, 9, 9)", -1, x.room(4, 9, 9));
        CHECK.due("room(-1, 0, 0)", -1, x.room(-1, 0, 0));
        CHECK.due("room(0, 3, 0)", -2, x.room(0, 3, 0));
        CHECK.due("room(0, -1, 0)", -2, x.room(0, -1, 0));
        CHECK.due("room(0, 0, 6)", -2, x.room(0, 0, 6));
        CHECK.due("room(0, 0, -6)", -2, x.room(0, 0, -6));
        CHECK.due("told(100) behind refusals", 11, x.told(100));
    }

    private static void bad() {
        FurnitureCure x = new FurnitureCure();
        CHECK.due("bad(0, 5, 3)", 10, x.bad(0, 5, 3));
        CHECK.due("bad(0, 5, -3)", 13, x.bad(0, 5, -3));
        CHECK.due("bad(5, 0, 1)", 10, x.bad(5, 0, 1));
        CHECK.due("bad(0, 5, 0)", 7, x.bad(0, 5, 0));
        CHECK.due("told(530)", 11, x.told(530));
        for (int piece = 0; piece < 6; piece++) {
            CHECK.due("bad for itself", -1, x.bad(piece, piece, 0));
        }
        CHECK.due("bad(-1, 0, 9)", -1, x.bad(-1, 0, 9));
        CHECK.due("bad(0, 6, 9)", -1, x.bad(0, 6, 9));
        CHECK.due("bad(0, 1, 4)", -2, x.bad(0, 1, 4));
        CHECK.due("bad(0, 1, -4)", -2, x.bad(0, 1, -4));
        CHECK.due("told(501)", 10, x.told(501));
    }

    private static void guest() {
        FurnitureCure x = new FurnitureCure();
        CHECK.due("guest(0, 63)", 0, x.guest(0, 63));
        CHECK.due("guest(0, 5)", 63, x.guest(0, 5));
        CHECK.due("guest(0, 0)", 5, x.guest(0, 0));
        CHECK.due("guest(5, 32)", 0, x.guest(5, 32));
        CHECK.due("told(605)", 32, x.told(605));
        CHECK.due("guest(6, 99)", -1, x.guest(6, 99));
        CHECK.due("guest(-1, 0)", -1, x.guest(-1, 0));
        CHECK.due("guest(5, 64)", -2, x.guest(5, 64));
        CHECK.due("guest(5, -1)", -2, x.guest(5, -1));
        CHECK.due("told(605) behind refusals", 32, x.told(605));
    }

    private static void say() {
        FurnitureCure x = new FurnitureCure();
        CHECK.due("say(32)", -2, x.say(32));
        CHECK.due("say(127)", -2, x.say(127));
        CHECK.due("say(-33)", -2, x.say(-33));
        CHECK.due("say(33)", 1, x.say(33));
        CHECK.due("say(126)", 2, x.say(126));
        for (int i = 3; i <= 60; i++) {
            CHECK.due("say(46) for the " + i + "th", i, x.say(46));
        }
        CHECK.due("say(46) too many", -4, x.say(46));
        CHECK.due("say(32) too many", -2, x.say(32));
        CHECK.due("signs", 60, x.told(0));
    }

    private static void wipe() {
        FurnitureCure x = new FurnitureCure();
        CHECK.due("wipe() of nothing", 0, x.wipe());
        for (int i = 0; i < 60; i++) {
            x.say('.');
        }
        CHECK.due("wipe()", 60, x.wipe());
        CHECK.due("signs", 0, x.told(0));
        CHECK.due("say behind it", 1, x.say('A'));
        CHECK.due("fault behind it", 1, x.fault());
    }

    private static void fault() {
        String[] cures = {"", ".", "Aa", "Fd", "F!", "A!.Bc.", "A", ".A", "G", "@", "!", "a", "Ae", "A.", "AA",
            "A`", "A!!", "Aab", "..A~", "AaBbCcDdEeFf", "F!Fa.x", "A!G"};
        int[] places = {-6, -6, -6, -6, -6, -6, 1, 2, 0, 0, 0, 0, 1, 1, 1,
            1, 2, 2, 3, 9, 5, 2};
        FurnitureCure x = new FurnitureCure();
        for (int i = 0; i < cures.length; i++) {
            Houses.write(x, cures[i]);
            CHECK.due("fault() of " + cures[i], places[i], x.fault());
            CHECK.due("judge(0) of " + cures[i] + " is NO by a fault", places[i] == -6 ? 0 : 1,
                    x.judge(0) == -5 ? 1 : 0);
        }
        Houses.write(x, Houses.repeat(".", 59) + "A");
        CHECK.due("fault() at the pad's end", 60, x.fault());
    }

    private static void refusedChangesNothing() {
        FurnitureCure x = Houses.withTwo();
        x.bad(1, 0, 2);
        x.guest(3, 9);
        x.seen(4, 2, 6);
        Houses.act(x, "Bb.A!");
        Houses.write(x, "A!.");
        String before = Houses.seenWhole(x);
        x.piece(6, 0, 0, 0);
        x.piece(0, 1, 21, 1);
        x.leave(5);
        x.room(4, 0, 1);
        x.room(0, 0, 6);
        x.bad(0, 0, 1);
        x.bad(0, 1, 4);
        x.guest(6, 1);
        x.guest(3, 64);
        x.say(32);
        x.judge(2);
        x.judge(0);
        x.done();
        x.behind(0, 0);
        x.behind(0, 4);
        x.worse(2);
        x.seen(21, 1, 1);
        x.home(0, 0, 11, 0, 0, 0);
        x.bill(10000, 0);
        x.week(0, 0, 0);
        x.image(2);
        x.restore(2);
        x.restore(0);
        x.told(-1);
        CHECK.holds("refused calls change nothing", before.equals(Houses.seenWhole(x)));
    }
}
