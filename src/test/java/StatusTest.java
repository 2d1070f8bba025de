/** Promise 2: a call that can be has STATUS 0, whatever the call ahead of it had; calls without STATUS leave it. */
public final class StatusTest {
    private static final String TEXT = "cool 0;person a;person b;person c;stair a b grudge 1;stair b c;like a b 6;";

    public static void main(String[] args) {
        clears("tray", x -> x.tray(0, 0, 1) ? 1 : 0);
        clears("write", x -> x.write(1, 0, 1) ? 1 : 0);
        clears("read", x -> x.read(1, 0));
        clears("pour", x -> x.pour(1, 0, 1, 1, 1) ? 1 : 0);
        clears("quarter", x -> x.quarter(0));
        clears("decades", x -> x.decades(0));
        for (int w = 0; w < 10; w++) {
            int what = w;
            clears("many " + what, x -> x.many(what));
        }
        for (int w = 0; w < 5; w++) {
            int what = w;
            clears("person " + what, x -> x.person(0, what));
            clears("lived " + what, x -> x.lived(what));
        }
        for (int w = 0; w < 6; w++) {
            int what = w;
            clears("stair " + what, x -> x.stair(0, what));
        }
        clears("likes", x -> x.likes(0, 0));
        clears("copyLives", x -> x.copyLives(1));
        deedsClear();
        rowsClear();
        choicesClear();
        leaves("top", x -> x.top());
        leaves("bottom", x -> x.bottom());
        leaves("fault(0)", x -> x.fault(0));
        leaves("fault(9)", x -> x.fault(9));
        leaves("feed", x -> x.feed(1, 2, 3, 4, 5));
        leaves("status", x -> x.status());
        Check.end("StatusTest");
    }

    private static void deedsClear() {
        clears("quarrel", x -> x.quarrel(0));
        clears("makeUp", x -> x.makeUp(0));
        clears("night", x -> x.night(1));
        clears("calm", x -> x.calm(0, 1));
        clears("tell", x -> x.tell(0, 0, 1));
        clears("swap", x -> x.swap(0, 1));
        clears("come", x -> x.come());
        clears("build", x -> x.build(0, 2));
        clears("rule of odds", x -> x.rule(2, 1) ? 1 : 0);
        clears("rule of cool", x -> x.rule(3, 1) ? 1 : 0);
        clears("live", x -> x.live(0));
        clears("mean", x -> x.mean(0, 1) ? 1 : 0);
        clears("mark", x -> x.mark());
        clears("back", x -> x.back());
    }

    private static void rowsClear() {
        clears("ring", x -> x.ring(0));
        clears("ringAt", x -> x.ringAt(0, 0));
        clears("rings", x -> x.rings());
        clears("undo", x -> x.undo());
        clears("homeward", x -> x.homeward());
        clears("toward", x -> x.toward(2));
        clears("towardAt", x -> x.towardAt(2, 0));
        clears("ways", x -> x.ways());
        clears("fits", x -> x.fits(2, 0, 1));
        clears("firstAt", x -> x.firstAt(2, 0, 1, 0));
        clears("ask", x -> x.ask(2, 0, 1));
    }

    private static void choicesClear() {
        clears("trade", x -> x.trade(0));
        clears("best", x -> x.best());
        clears("bestOf", x -> x.bestOf(0));
        clears("envy", x -> x.envy());
        clears("vote", x -> x.vote(0, 1));
        clears("winner", x -> x.winner());
        clears("game", x -> x.game(0, 1, 1));
        clears("moveOf", x -> x.moveOf(0, 1, 1));
        clears("drift", x -> x.drift(0, 1, 1) ? 1 : 0);
    }

    /** An object of which every call above can be asked: a mark, decades that were lived, trays. */
    private static QuarrelKeys ready() {
        QuarrelKeys x = Check.with(TEXT, "night 1;");
        x.live(0);
        x.mark();
        Check.lay(x, 1, 4, 5, 6);
        Check.lay(x, 2, 1, 0, 2);
        return x;
    }

    private static void clears(String call, Check.Call what) {
        QuarrelKeys x = ready();
        x.read(9, 9);
        Check.due("status() ahead of " + call, x.status(), 1);
        what.answer(x);
        Check.due("status() behind " + call, x.status(), 0);
    }

    private static void leaves(String call, Check.Call what) {
        QuarrelKeys x = ready();
        x.read(9, 9);
        what.answer(x);
        Check.due("status() behind " + call, x.status(), 1);
        x.many(0);
        what.answer(x);
        Check.due("status() behind " + call, x.status(), 0);
    }
}
