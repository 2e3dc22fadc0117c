/** Promises 29 to 31: images, and what is told. */
public final class ImagesTest {
    private static final Check CHECK = new Check("ImagesTest");

    public static void main(String[] args) {
        images();
        imagesKeepAll();
        told();
        toldOutside();
        CHECK.end();
    }

    private static void images() {
        FurnitureCure x = Houses.withTwo();
        CHECK.due("image(2)", -2, x.image(2));
        CHECK.due("image(-1)", -2, x.image(-1));
        CHECK.due("restore(2)", -2, x.restore(2));
        CHECK.due("restore(-1)", -2, x.restore(-1));
        CHECK.due("restore(1) ahead of it", -3, x.restore(1));
        CHECK.due("image(1)", 1, x.image(1));
        CHECK.due("restore(0) of the other one", -3, x.restore(0));
        x.leave(0);
        CHECK.due("image(0)", 1, x.image(0));
        CHECK.due("restore(1)", 1, x.restore(1));
        CHECK.due("both are there", 3, x.told(1));
        CHECK.due("restore(0)", 1, x.restore(0));
        CHECK.due("one is there", 2, x.told(1));
        x.piece(4, 1, 1, 1);
        CHECK.due("restore(0) once more", 1, x.restore(0));
        CHECK.due("one is there again", 2, x.told(1));
        x.piece(5, 1, 1, 1);
        CHECK.due("image(0) over the old one", 1, x.image(0));
        x.restore(1);
        x.restore(0);
        CHECK.due("the newer one was kept", 34, x.told(1));
    }

    private static void imagesKeepAll() {
        FurnitureCure x = Houses.withTwo();
        x.bad(1, 0, 2);
        x.guest(3, 9);
        x.seen(4, 2, 6);
        x.seen(4, 3, 7);
        Houses.act(x, "Bb.A!");
        Houses.write(x, "A!.");
        String kept = Houses.seenWhole(x);
        x.image(1);
        x.piece(0, 9, 9, 9);
        x.piece(3, 8, 8, 8);
        x.leave(1);
        x.room(2, 2, 2);
        x.bad(1, 0, -3);
        x.bad(5, 4, 1);
        x.guest(3, 1);
        x.guest(0, 2);
        x.forget();
        x.seen(9, 9, 9);
        Houses.act(x, "Ad..D!");
        Houses.write(x, "A!.");
        CHECK.holds("it is another house now", !kept.equals(Houses.seenWhole(x)));
        x.restore(1);
        CHECK.holds("it is as it was", kept.equals(Houses.seenWhole(x)));
        Houses.write(x, ".....");
        x.restore(1);
        CHECK.due("the pad is not restored", 5, x.told(0));
        CHECK.due("nor is its text", -6, x.fault());
    }

    private static void told() {
        FurnitureCure x = new FurnitureCure();
        x.piece(1, 3, 4, 5);
        x.piece(5, 6, 7, 8);
        x.room(1, 0, -5);
        x.room(3, 2, 4);
        x.bad(5, 1, -3);
        x.bad(1, 5, 2);
        x.guest(2, 33);
        x.seen(1, 1, 1);
        Houses.act(x, "F!..FdB!");
        Houses.write(x, "A!F");
        int[] what = {0, 1, 2, 3, 4, 20, 21, 22, 23, 60, 61, 62, 63, 200, 402, 400, 531, 511, 602, 600};
        int[] due = {3, 34, 2, 1, 2, 3, 0, 5, 0, 4, 11, 8, 3, 5, 14, 10, 7, 12, 33, 0};
        for (int i = 0; i < what.length; i++) {
            CHECK.due("told(" + what[i] + ")", due[i], x.told(what[i]));
        }
    }

    private static void toldOutside() {
        FurnitureCure x = new FurnitureCure();
        x.piece(0, 1, 1, 1);
        x.piece(5, 1, 1, 1);
        int[] outside = {-1, 5, 9, 14, 19, 20, 50, 53, 64, 69, 70, 73, 99, 103, 199, 203, 403, 499,
            500, 507, 514, 521, 528, 535, 536, 599, 606, 700, Integer.MAX_VALUE, Integer.MIN_VALUE};
        for (int what : outside) {
            CHECK.due("told(" + what + ")", -2, x.told(what));
        }
    }
}
