/** Houses made for tests, and how a test sees one whole. */
final class Houses {
    private Houses() {
    }

    /** A with 3, 4, 5 and a well B, both in room a, which does -1, -2, -5. */
    static FurnitureCure withTwo() {
        FurnitureCure x = new FurnitureCure();
        x.piece(0, 3, 4, 5);
        x.piece(1, 0, 0, 0);
        x.room(0, 0, -1);
        x.room(0, 1, -2);
        x.room(0, 2, -5);
        return x;
    }

    /** A, C and F are there, all else holds something too, an image is kept, and cures that can be wait on the pad. */
    static FurnitureCure busy() {
        FurnitureCure x = withTwo();
        x.leave(1);
        x.piece(2, 0, 0, 0);
        x.piece(5, 20, 19, 18);
        x.room(3, 1, 2);
        x.bad(2, 0, 1);
        x.bad(0, 2, -3);
        x.guest(0, 33);
        x.guest(5, 4);
        x.seen(3, 2, 0);
        act(x, "Fd.A!");
        x.image(0);
        x.bad(5, 2, 2);
        x.guest(3, 63);
        act(x, "Cb");
        write(x, "C!.Fa");
        return x;
    }

    static FurnitureCure withAll(int creaks, int nerves, int damp) {
        FurnitureCure x = new FurnitureCure();
        for (int piece = 0; piece < 6; piece++) {
            x.piece(piece, creaks, nerves, damp);
        }
        return x;
    }

    /** One piece by itself in room a. */
    static FurnitureCure withOne(int piece, int creaks, int nerves, int damp) {
        FurnitureCure x = new FurnitureCure();
        x.piece(piece, creaks, nerves, damp);
        return x;
    }

    /** Lets hours pass, as many as are told; the pad is empty then. */
    static void pass(FurnitureCure x, int hours) {
        for (int left = hours; left > 0; left -= 60) {
            act(x, repeat(".", Math.min(left, 60)));
        }
    }

    static void write(FurnitureCure x, String cures) {
        x.wipe();
        for (int i = 0; i < cures.length(); i++) {
            x.say(cures.charAt(i));
        }
    }

    /** Writes cures and does them. */
    static int act(FurnitureCure x, String cures) {
        write(x, cures);
        return x.done();
    }

    static String repeat(String text, int times) {
        StringBuilder all = new StringBuilder();
        for (int i = 0; i < times; i++) {
            all.append(text);
        }
        return all.toString();
    }

    /** All that told() and does() show, as one text; some ninety calls. */
    static String seenWhole(FurnitureCure x) {
        StringBuilder all = new StringBuilder();
        for (int what = 0; what <= 4; what++) {
            all.append(x.told(what)).append(' ');
        }
        for (int piece = 0; piece < 6; piece++) {
            for (int what = 0; what <= 3; what++) {
                all.append(x.told(10 * (1 + piece) + what)).append(' ');
            }
        }
        for (int room = 0; room < 4; room++) {
            for (int ill = 0; ill < 3; ill++) {
                all.append(x.told(100 * (1 + room) + ill)).append(' ');
            }
        }
        for (int pair = 0; pair < 36; pair++) {
            all.append(x.told(500 + pair)).append(' ');
        }
        for (int guest = 0; guest < 6; guest++) {
            all.append(x.told(600 + guest)).append(' ');
        }
        for (int i = -1; i < 11; i++) {
            all.append(x.does(i)).append(' ');
        }
        return all.append(x.fault()).toString();
    }

    /** What the pad's cures come to, and both images, behind what seenWhole() shows; some 320 calls. */
    static String seenThrough(FurnitureCure x) {
        StringBuilder all = new StringBuilder(seenWhole(x));
        for (int piece = 0; piece < 6; piece++) {
            for (int what = 0; what <= 3; what++) {
                all.append(' ').append(x.behind(piece, what));
            }
        }
        all.append(' ').append(x.judge(0)).append(' ').append(x.judge(1)).append(' ').append(x.wipe());
        for (int n = 0; n < 2; n++) {
            all.append(" / ").append(x.restore(n)).append(' ').append(seenWhole(x));
        }
        return all.toString();
    }
}
