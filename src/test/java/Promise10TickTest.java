/** Promise 10: tick, and what time does: LOCATED, WHOLE, SPREAD. */
public final class Promise10TickTest {
    public static void main(String[] args) {
        time();
        mute();
        keep();
        spread();
        spreadIsDueForThatOnce();
        spreadStartsAgain();
        spreadsOfTwoSections();
        oneByOne();
        refusals();
        Kit.end();
    }

    private static void time() {
        TrackKeeper x = Kit.begun(9, 9, 9, Kit.of(10));
        Kit.same("1", x.tick(1), 1);
        Kit.same("1000 more", x.tick(1000), 1001);
        Kit.same("time", x.count(2, 0), 1001);
    }

    private static void mute() {
        TrackKeeper x = Kit.begun(3, 100, 100, Kit.of(100, 100));
        x.connect(0, 10);
        x.report(0, 50, 1);
        x.detect(0, true);
        x.request(0, 1);
        x.tick(3);
        Kit.same("3 old: located", x.train(0, 1), 1);
        Kit.same("states", Kit.states(x), "OF");
        Kit.same("its end", x.train(0, 3), 1);
        x.tick(1);
        Kit.same("4 old: not located", x.train(0, 1), 0);
        Kit.same("not whole", x.train(0, 2), 0);
        Kit.same("states without it", Kit.states(x), "UU");
        Kit.same("its end is withdrawn", x.train(0, 3), -1);
        Kit.same("counted", x.count(4, 0), 1);
        Kit.same("a report", x.report(0, 50, 0), true);
        Kit.same("located again", x.train(0, 1), 1);
        Kit.same("and whole: that was confirmed 4 ago", x.train(0, 2), 1);
    }

    private static void keep() {
        TrackKeeper x = Kit.begun(100, 3, 100, Kit.of(100, 100));
        x.connect(0, 10);
        x.report(0, 50, 1);
        x.detect(0, true);
        x.tick(2);
        x.report(0, 50, 0);
        x.tick(1);
        Kit.same("3 ago: whole", x.train(0, 2), 1);
        Kit.same("states", Kit.states(x), "OF");
        x.tick(1);
        Kit.same("4 ago: not whole", x.train(0, 2), 0);
        Kit.same("still located", x.train(0, 1), 1);
        Kit.same("states of one not whole", Kit.states(x), "AF");
    }

    /** Train 1 leaves something unknown behind in a section where train 0 stands. */
    private static TrackKeeper withUnknownAtItsEnd(int spread) {
        TrackKeeper x = Kit.begun(1000, 1000, spread, Kit.of(100, 100, 100, 100), Kit.of(100));
        x.connect(0, 20);
        x.report(0, 150, 1);
        x.detect(0, true);
        x.connect(1, 20);
        x.report(1, 350, 1);
        x.leave(1);
        return x;
    }

    private static void spread() {
        TrackKeeper x = withUnknownAtItsEnd(3);
        Kit.same("at first", Kit.states(x), "FOFUF");
        x.tick(2);
        Kit.same("not yet", Kit.states(x), "FOFUF");
        Kit.same("counted", x.count(6, 0), 2);
        Kit.same("never due", x.count(5, 0), 0);
        x.tick(1);
        Kit.same("due; the train looks at what was free before", Kit.states(x), "UOUUF");
        Kit.same("counts from 0 again", x.count(6, 0), 0);
        Kit.same("due once", x.count(5, 0), 1);
        x.tick(1);
        Kit.same("now there is something unknown behind the train", Kit.states(x), "UAUUF");
        Kit.same("counts on", x.count(6, 0), 1);
        x.tick(2);
        Kit.same("due again, though nothing is left", x.count(5, 0), 2);
        Kit.same("another section takes no part", x.count(6, 1), 0);

        TrackKeeper quick = withUnknownAtItsEnd(1);
        quick.tick(1);
        Kit.same("spread 1 is due at once", Kit.states(quick), "UOUUF");
        Kit.same("with 0 counted", quick.count(6, 0), 0);
        Kit.same("once", quick.count(5, 0), 1);
    }

    private static void spreadIsDueForThatOnce() {
        TrackKeeper x = withUnknownAtItsEnd(2);
        x.tick(2);
        Kit.same("due", Kit.states(x), "UOUUF");
        x.detect(0, false);
        x.detect(0, true);
        Kit.same("not due any more", Kit.states(x), "FOFFF");
        x.tick(5);
        Kit.same("nor later", Kit.states(x), "FOFFF");
    }

    private static void spreadStartsAgain() {
        TrackKeeper x = withUnknownAtItsEnd(3);
        x.tick(2);
        x.connect(2, 10);
        Kit.same("an event does not count", x.count(6, 0), 2);
        x.report(2, 350, 1);
        Kit.same("nothing is unknown", Kit.states(x), "FOFOF");
        Kit.same("so it is 0", x.count(6, 0), 0);
        x.tick(5);
        Kit.same("and stays 0", x.count(6, 0), 0);
        x.leave(2);
        x.tick(2);
        Kit.same("from 0 again", x.count(6, 0), 2);
        Kit.same("not due yet", Kit.states(x), "FOFUF");
        x.detect(0, false);
        Kit.same("0 when it is empty", x.count(6, 0), 0);
        x.tick(5);
        Kit.same("never due", x.count(5, 0), 0);
    }

    private static void spreadsOfTwoSections() {
        TrackKeeper x = Kit.begun(9, 9, 4, Kit.of(10), Kit.of(10), Kit.of(10));
        x.detect(0, true);
        x.tick(1);
        x.detect(2, true);
        x.tick(2);
        Kit.same("section 0", x.count(6, 0), 3);
        Kit.same("section 1", x.count(6, 1), 0);
        Kit.same("section 2", x.count(6, 2), 2);
        x.tick(1);
        Kit.same("due in section 0", x.count(5, 0), 1);
        x.tick(1);
        Kit.same("due in section 2", x.count(5, 0), 2);
        x.detect(0, false);
        x.detect(2, false);
        x.detect(0, true);
        x.detect(2, true);
        x.tick(4);
        Kit.same("both at the same tick", x.count(5, 0), 4);
    }

    private static void oneByOne() {
        TrackKeeper atOnce = withUnknownAtItsEnd(7);
        TrackKeeper single = withUnknownAtItsEnd(7);
        atOnce.tick(40);
        for (int i = 0; i < 40; i++) {
            single.tick(1);
        }
        Kit.same("states", Kit.states(atOnce), Kit.states(single));
        Kit.same("dues", atOnce.count(5, 0), 5);
        Kit.same("dues, single", single.count(5, 0), 5);
        Kit.same("counted", atOnce.count(6, 0), 5);
        Kit.same("counted, single", single.count(6, 0), 5);
    }

    private static void refusals() {
        TrackKeeper x = Kit.laid(Kit.of(10));
        Kit.badState("not begun", () -> x.tick(1));
        Kit.badState("not begun comes first", () -> x.tick(0));
        x.begin(9, 9, 9);
        Kit.badArgument("0", () -> x.tick(0));
        Kit.badArgument("-1", () -> x.tick(-1));
        Kit.badArgument("1001", () -> x.tick(1001));
        Kit.badArgument("the greatest int", () -> x.tick(Integer.MAX_VALUE));
        Kit.same("the time stands", x.count(2, 0), 0);
    }
}
