/** Promises 16 to 20: the best rooms, pieces apart and together, seats. */
public final class RoomsTest {
    private static final Check CHECK = new Check("RoomsTest");

    public static void main(String[] args) {
        alone();
        all();
        allTogether();
        allOfSix();
        ways();
        waysByPairs();
        rooms();
        seats();
        seatsFirstWay();
        CHECK.end();
    }

    private static void alone() {
        FurnitureCure x = new FurnitureCure();
        x.piece(0, 6, 3, 0);
        x.piece(1, 0, 0, 0);
        CHECK.due("alone(0, 0) where no room helps", -6, x.alone(0, 0));
        CHECK.due("alone(0, 1) where no room helps", -6, x.alone(0, 1));
        x.room(1, 0, -1);
        x.room(1, 1, -1);
        x.room(2, 0, -2);
        x.room(2, 1, -1);
        x.room(3, 0, -3);
        x.room(3, 1, -1);
        x.bad(1, 0, 3);
        CHECK.due("alone(0, 0)", 2, x.alone(0, 0));
        CHECK.due("alone(0, 1)", 3, x.alone(0, 1));
        Houses.act(x, "AcA!Bc");
        CHECK.due("alone(0, 1) without company and seat", 3, x.alone(0, 1));
        x.room(2, 2, 1);
        CHECK.due("alone(0, 0) where no damp comes", 3, x.alone(0, 0));
        CHECK.due("alone(1, 0) of one that is well", 0, x.alone(1, 0));
        CHECK.due("alone(1, 1) of one that is well", 0, x.alone(1, 1));
        CHECK.due("alone(2, 9)", -1, x.alone(2, 9));
        CHECK.due("alone(-1, 0)", -1, x.alone(-1, 0));
        CHECK.due("alone(0, 2)", -2, x.alone(0, 2));
        CHECK.due("alone(0, -1)", -2, x.alone(0, -1));
        x.piece(0, 0, 20, 0);
        CHECK.due("alone(0, 0) at its longest", 1, x.alone(0, 0));
        CHECK.due("alone(0, 1) at its longest", 20, x.alone(0, 1));
        x.room(0, 1, -4);
        CHECK.due("alone(0, 0) where the first room helps most", 0, x.alone(0, 0));
        CHECK.due("alone(0, 1) where the first room helps most", 5, x.alone(0, 1));
    }

    private static void allDue(FurnitureCure x, String when, int hours, int rooms) {
        CHECK.due("all(0) " + when, hours, x.all(0));
        CHECK.due("all(1) " + when, rooms, x.all(1));
    }

    private static void all() {
        FurnitureCure x = new FurnitureCure();
        allDue(x, "of none", 0, 444444);
        x.piece(1, 0, 0, 0);
        x.piece(4, 0, 0, 0);
        x.room(0, 0, 5);
        allDue(x, "of the well", 0, 404404);
        x.piece(4, 0, 4, 0);
        allDue(x, "where no room helps", -6, -6);
        x.room(2, 1, -1);
        allDue(x, "where one helps", 4, 414424);
        x.room(3, 1, -2);
        allDue(x, "where a later one helps more", 2, 414434);
        Houses.act(x, "E!");
        allDue(x, "sat in", 2, 414434);
        CHECK.due("all(2)", -2, x.all(2));
        CHECK.due("all(-1)", -2, x.all(-1));
        CHECK.due("nobody is walked", 0, x.told(53));
    }

    private static void allTogether() {
        FurnitureCure x = new FurnitureCure();
        x.piece(0, 0, 6, 0);
        x.piece(1, 0, 6, 0);
        x.bad(0, 1, -2);
        x.bad(1, 0, -3);
        allDue(x, "good for each other", 3, 4444);
        x.bad(1, 0, 3);
        x.room(3, 1, -3);
        // A loses its nerves in d without B alone, and nothing but d helps B.
        allDue(x, "bad for one", -6, -6);
        x.room(1, 1, -3);
        allDue(x, "two rooms that help", 2, 134444);
    }

    private static void allOfSix() {
        FurnitureCure x = new FurnitureCure();
        for (int piece = 0; piece < 6; piece++) {
            x.piece(piece, 20, 0, 20);
        }
        x.room(0, 0, -1);
        x.room(0, 2, -1);
        allDue(x, "of six", 20, 0);
        x.bad(0, 5, 1);
        allDue(x, "of six, one of which is bad", -6, -6);
        x.room(3, 0, -2);
        x.room(3, 2, -1);
        allDue(x, "of six, the last by itself", 20, 3);
        x.bad(5, 0, -3);
        x.bad(4, 5, -1);
        allDue(x, "of six, one being good", 20, 0);
    }

    private static void ways() {
        FurnitureCure x = new FurnitureCure();
        CHECK.due("ways of none", 1, x.ways(32767, 32767, 1));
        for (int piece = 0; piece < 6; piece++) {
            x.piece(piece, 1, 1, 1);
        }
        CHECK.due("ways in one room", 1, x.ways(0, 0, 1));
        CHECK.due("ways in two", 64, x.ways(0, 0, 2));
        CHECK.due("ways in three", 729, x.ways(0, 0, 3));
        CHECK.due("ways in four", 4096, x.ways(0, 0, 4));
        CHECK.due("all apart", 0, x.ways(32767, 0, 4));
        CHECK.due("all together", 4, x.ways(0, 32767, 4));
        CHECK.due("one two both", 0, x.ways(16384, 16384, 4));
        CHECK.due("ways(32768, 0, 1)", -2, x.ways(32768, 0, 1));
        CHECK.due("ways(-1, 0, 1)", -2, x.ways(-1, 0, 1));
        CHECK.due("ways(0, 32768, 1)", -2, x.ways(0, 32768, 1));
        CHECK.due("ways(0, -1, 1)", -2, x.ways(0, -1, 1));
        CHECK.due("ways(0, 0, 0)", -2, x.ways(0, 0, 0));
        CHECK.due("ways(0, 0, 5)", -2, x.ways(0, 0, 5));
    }

    private static void waysByPairs() {
        String pairs = "ABACADAEAFBCBDBEBFCDCECFDEDFEF";
        for (int pair = 0; pair < 15; pair++) {
            FurnitureCure x = new FurnitureCure();
            int one = pairs.charAt(2 * pair) - 'A';
            int two = pairs.charAt(2 * pair + 1) - 'A';
            x.piece(one, 1, 1, 1);
            x.piece(two, 1, 1, 1);
            CHECK.due("apart, pair " + pair, 12, x.ways(1 << pair, 0, 4));
            CHECK.due("together, pair " + pair, 4, x.ways(0, 1 << pair, 4));
            CHECK.due("other pairs do not matter, but " + pair, 16,
                    x.ways(32767 & ~(1 << pair), 32767 & ~(1 << pair), 4));
        }
    }

    private static void rooms() {
        FurnitureCure x = new FurnitureCure();
        CHECK.due("rooms for none", 1, x.rooms(32767, 32767));
        for (int piece = 0; piece < 4; piece++) {
            x.piece(piece, 1, 1, 1);
        }
        CHECK.due("rooms without twos", 1, x.rooms(0, 0));
        CHECK.due("rooms, AB apart", 2, x.rooms(1, 0));
        CHECK.due("rooms, AB, AC, BC apart", 3, x.rooms(35, 0));
        CHECK.due("rooms, all four apart", 4, x.rooms(1 | 2 | 4 | 32 | 64 | 512, 0));
        CHECK.due("rooms, AB apart and together", -6, x.rooms(1, 1));
        CHECK.due("rooms, AB apart, AC and BC together", -6, x.rooms(1, 2 | 32));
        x.piece(4, 1, 1, 1);
        CHECK.due("rooms, five apart", -6, x.rooms(32767, 0));
        CHECK.due("rooms(32768, 0)", -2, x.rooms(32768, 0));
        CHECK.due("rooms(-1, 0)", -2, x.rooms(-1, 0));
        CHECK.due("rooms(0, 32768)", -2, x.rooms(0, 32768));
        CHECK.due("rooms(0, -1)", -2, x.rooms(0, -1));
    }

    private static void seated(FurnitureCure x, String when, int... due) {
        for (int i = 0; i < due.length; i++) {
            CHECK.due("seats(" + (i - 1) + ") " + when, due[i], x.seats(i - 1));
        }
    }

    private static void seats() {
        FurnitureCure x = new FurnitureCure();
        seated(x, "of none", 0, -6, -6, -6, -6, -6, -6);
        x.guest(0, 63);
        seated(x, "where nothing is there", 0, -6, -6, -6, -6, -6, -6);
        x.piece(4, 1, 1, 1);
        seated(x, "with one piece", 1, 4, -6, -6, -6, -6, -6);
        CHECK.due("seats(-2)", -1, x.seats(-2));
        CHECK.due("seats(6)", -1, x.seats(6));
        x.leave(4);
        seated(x, "when it has left", 0, -6, -6, -6, -6, -6, -6);
    }

    private static void seatsFirstWay() {
        FurnitureCure x = new FurnitureCure();
        for (int piece = 0; piece < 6; piece++) {
            x.piece(piece, 1, 1, 1);
        }
        x.guest(0, 7);
        x.guest(1, 1);
        x.guest(2, 2);
        x.guest(3, 4);
        seated(x, "where one must stand", 3, 0, -6, 1, 2, -6, -6);
        x.guest(3, 12);
        seated(x, "where all can sit", 4, 2, 0, 1, 3, -6, -6);
        x.guest(4, 63);
        x.guest(5, 63);
        seated(x, "where six sit", 6, 2, 0, 1, 3, 4, 5);
        x.guest(1, 0);
        seated(x, "where one likes none", 5, 0, -6, 1, 2, 3, 4);
        x.guest(1, 1);
        x.guest(4, 0);
        x.guest(5, 2);
        x.guest(2, 6);
        seated(x, "where those behind move others", 4, 0, -6, 2, 3, -6, 1);
    }
}
