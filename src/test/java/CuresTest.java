/** Promises 10 to 15: what cures do, and how long each piece has yet. */
public final class CuresTest {
    private static final Check CHECK = new Check("CuresTest");

    public static void main(String[] args) {
        judge();
        judgeByHours();
        done();
        doneRefused();
        hours();
        behind();
        worse();
        well();
        stays();
        CHECK.end();
    }

    private static void judged(FurnitureCure x, String cures, int act, int why) {
        Houses.write(x, cures);
        CHECK.due("judge(0) of " + cures, act, x.judge(0));
        CHECK.due("judge(1) of " + cures, why, x.judge(1));
    }

    private static void judge() {
        FurnitureCure x = Houses.withTwo();
        judged(x, "", -6, -6);
        judged(x, "AbAa", -6, -6);
        judged(x, "C!", 0, 1);
        judged(x, "Ca", 0, 1);
        judged(x, "Aa", 0, 2);
        judged(x, "..AbAb", 3, 2);
        judged(x, "A!A!", 1, 3);
        judged(x, "A!Ab", 1, 3);
        judged(x, "A!Aa", 1, 2);
        judged(x, "A!.A!.Ab", -6, -6);
        judged(x, "A!B!Bb", 2, 3);
        judged(x, "AbA!.AcA!Ad", 5, 3);
        Houses.write(x, "Ax");
        CHECK.due("judge(2) with a fault", -2, x.judge(2));
        CHECK.due("judge(-1) with a fault", -2, x.judge(-1));
        CHECK.due("judge(1) with a fault", -5, x.judge(1));
        Houses.act(x, "A!");
        judged(x, "A!", 0, 3);
        judged(x, "Ab", 0, 3);
        judged(x, ".Ab", -6, -6);
        CHECK.due("judging does nothing", 0, x.told(2));
    }

    private static void judgeByHours() {
        FurnitureCure x = Houses.withTwo();
        Houses.act(x, Houses.repeat(".", 60));
        CHECK.due("hour", 60, x.told(2));
        judged(x, Houses.repeat(".", 39), -6, -6);
        judged(x, Houses.repeat(".", 40), 39, 4);
        Houses.act(x, Houses.repeat(".", 39));
        CHECK.due("last hour", 99, x.told(2));
        judged(x, ".", 0, 4);
        judged(x, "A!Bb.", 2, 4);
        judged(x, "C!.", 0, 1);
        CHECK.due("done() of an hour more", -5, Houses.act(x, "."));
        CHECK.due("done() without hours", 2, Houses.act(x, "A!Bb"));
        CHECK.due("hour still", 99, x.told(2));
    }

    private static void done() {
        FurnitureCure x = Houses.withTwo();
        CHECK.due("done() of nothing", 0, x.done());
        CHECK.due("done()", 4, Houses.act(x, "AbB!.A!"));
        CHECK.due("the pad is empty", 0, x.told(0));
        CHECK.due("hour", 1, x.told(2));
        CHECK.due("sat in", 1, x.told(4));
        CHECK.due("room", 1, x.told(13));
        CHECK.due("an hour", 1, Houses.act(x, "."));
        CHECK.due("creaks less by the seat", 1, x.told(10));
        CHECK.due("nothing is sat in", 0, x.told(4));
    }

    private static void doneRefused() {
        FurnitureCure x = Houses.withTwo();
        Houses.write(x, "AbA");
        CHECK.due("done() with a fault", -5, x.done());
        CHECK.due("signs stay", 3, x.told(0));
        CHECK.due("room stays", 0, x.told(13));
        Houses.write(x, "Ab.Ab");
        CHECK.due("done() of what can not be", -5, x.done());
        CHECK.due("signs stay then", 5, x.told(0));
        CHECK.due("room stays then", 0, x.told(13));
        CHECK.due("hour stays then", 0, x.told(2));
    }

    private static void hours() {
        FurnitureCure x = new FurnitureCure();
        x.piece(0, 1, 19, 3);
        x.piece(1, 20, 10, 0);
        x.piece(2, 3, 10, 9);
        x.room(0, 0, 1);
        x.room(0, 1, 2);
        x.room(0, 2, -4);
        x.room(2, 0, 5);
        x.room(2, 1, -5);
        x.bad(1, 0, 3);
        x.bad(2, 0, -3);
        x.bad(0, 1, 1);
        x.bad(2, 1, -1);
        x.bad(0, 2, -3);
        x.bad(1, 2, -2);
        Houses.act(x, "B!.");
        int[] behindOne = {2, 20, 0, 18, 12, 0, 4, 7, 5};
        ills(x, "an hour together", behindOne);
        Houses.act(x, "CcC!A!.");
        int[] behindTwo = {1, 20, 0, 19, 15, 0, 7, 2, 5};
        ills(x, "an hour apart", behindTwo);
        Houses.act(x, "Bc.");
        int[] behindThree = {2, 20, 0, 20, 9, 0, 12, 0, 5};
        ills(x, "an hour behind a walk", behindThree);
        x.leave(1);
        Houses.act(x, ".");
        CHECK.due("who left is not with it", 0, x.told(31));
        CHECK.due("creaks are 17", 17, x.told(30));
    }

    private static void ills(FurnitureCure x, String when, int[] due) {
        for (int i = 0; i < due.length; i++) {
            CHECK.due(when + ", piece " + i / 3 + " ill " + i % 3, due[i], x.told(10 * (1 + i / 3) + i % 3));
        }
    }

    private static void behind() {
        FurnitureCure x = Houses.withTwo();
        Houses.write(x, "A!.AbBd");
        CHECK.due("creaks", 0, x.behind(0, 0));
        CHECK.due("nerves", 2, x.behind(0, 1));
        CHECK.due("damp", 0, x.behind(0, 2));
        CHECK.due("room", 1, x.behind(0, 3));
        CHECK.due("the other's room", 3, x.behind(1, 3));
        CHECK.due("nothing is done", 3, x.told(10));
        CHECK.due("no hour passes", 0, x.told(2));
        CHECK.due("signs stay", 7, x.told(0));
        CHECK.due("behind(2, 9)", -1, x.behind(2, 9));
        CHECK.due("behind(-1, 0)", -1, x.behind(-1, 0));
        CHECK.due("behind(0, 4)", -2, x.behind(0, 4));
        CHECK.due("behind(0, -1)", -2, x.behind(0, -1));
        Houses.write(x, "Aa");
        CHECK.due("behind(0, 0) of what can not be", -5, x.behind(0, 0));
        CHECK.due("behind(0, 4) of what can not be", -2, x.behind(0, 4));
        CHECK.due("behind(3, 4) of what can not be", -1, x.behind(3, 4));
        Houses.write(x, "A");
        CHECK.due("behind(0, 0) with a fault", -5, x.behind(0, 0));
        x.wipe();
        CHECK.due("behind(0, 1) of nothing", 4, x.behind(0, 1));
    }

    private static void worsened(FurnitureCure x, String cures, int hour, int piece) {
        Houses.write(x, cures);
        CHECK.due("worse(0) of " + cures, hour, x.worse(0));
        CHECK.due("worse(1) of " + cures, piece, x.worse(1));
    }

    private static void worse() {
        FurnitureCure x = Houses.withTwo();
        x.room(1, 0, 2);
        x.room(2, 0, 3);
        x.room(2, 1, -3);
        worsened(x, "", -6, -6);
        worsened(x, "..", -6, -6);
        worsened(x, "Ab.", 0, 0);
        worsened(x, ".BbAb.", 1, 0);
        worsened(x, "..Bb.Ab.", 2, 1);
        worsened(x, "AbA!.", -6, -6);
        worsened(x, "AbA!..", 1, 0);
        worsened(x, "Ac.", -6, -6);
        worsened(x, "Ac..", 1, 0);
        Houses.act(x, "..");
        worsened(x, "Bb.", 0, 1);
        worsened(x, "Aa", -5, -5);
        worsened(x, "A", -5, -5);
        CHECK.due("worse(2) with a fault", -2, x.worse(2));
        CHECK.due("worse(-1) with a fault", -2, x.worse(-1));
    }

    private static void well() {
        FurnitureCure x = new FurnitureCure();
        CHECK.due("well() of none", 0, x.well());
        x.piece(0, 0, 0, 0);
        x.piece(1, 1, 0, 0);
        x.piece(2, 0, 1, 0);
        x.piece(3, 0, 0, 1);
        x.piece(5, 0, 0, 0);
        CHECK.due("well()", 33, x.well());
        x.leave(0);
        CHECK.due("well() of who is there", 32, x.well());
        x.room(0, 1, -1);
        Houses.act(x, ".");
        CHECK.due("well() an hour later", 36, x.well());
    }

    private static void stays() {
        FurnitureCure x = Houses.withTwo();
        CHECK.due("stays(0)", 3, x.stays(0));
        CHECK.due("stays(1) of one that is well", 0, x.stays(1));
        CHECK.due("stays(2)", -1, x.stays(2));
        CHECK.due("stays(-1)", -1, x.stays(-1));
        CHECK.due("stays(6)", -1, x.stays(6));
        x.bad(1, 0, 1);
        CHECK.due("stays(0) with company", 4, x.stays(0));
        x.bad(1, 0, 2);
        CHECK.due("stays(0) with bad company", -6, x.stays(0));
        Houses.act(x, "Bb");
        CHECK.due("stays(0) by itself", 3, x.stays(0));
        Houses.act(x, "A!");
        CHECK.due("stays(0) does not count the seat", 3, x.stays(0));
        x.piece(2, 20, 20, 20);
        CHECK.due("stays(2) at its longest", 20, x.stays(2));
        x.room(1, 1, 1);
        CHECK.due("stays(1) is well now", 0, x.stays(1));
        x.piece(3, 0, 0, 5);
        x.room(0, 0, 1);
        CHECK.due("stays(3) getting creaks", -6, x.stays(3));
    }
}
