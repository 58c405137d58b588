/** Promise 8: report. */
public final class Promise08ReportTest {
    public static void main(String[] args) {
        places();
        rears();
        dropped();
        droppedCountsNothing();
        integrity();
        refusals();
        Kit.end();
    }

    private static void places() {
        TrackKeeper x = Kit.begun(9, 9, 9, Kit.of(10), Kit.of(1, 20), Kit.of(5));
        int[][] frontAndSub = {{0, 0}, {9, 0}, {10, 1}, {11, 2}, {30, 2}, {31, 3}, {35, 3}, {36, 3}};
        x.connect(7, 1);
        for (int[] pair : frontAndSub) {
            Kit.same("report at " + pair[0], x.report(7, pair[0], 0), true);
            Kit.same("its subsection", x.train(7, 5), pair[1]);
        }
    }

    private static void rears() {
        TrackKeeper x = Kit.begun(9, 9, 9, Kit.of(100, 100, 100, 100));
        x.connect(0, 80);
        x.report(0, 190, 0);
        Kit.same("first one, not confirmed", x.train(0, 4), 1);
        x.report(0, 290, 0);
        Kit.same("still from the first one", x.train(0, 4), 1);
        x.report(0, 290, 2);
        Kit.same("lost, still from the first one", x.train(0, 4), 1);
        x.report(0, 290, 1);
        Kit.same("confirmed", x.train(0, 4), 2);
        x.report(0, 395, 0);
        Kit.same("still from the confirmed one", x.train(0, 4), 2);
        x.report(0, 395, 2);
        Kit.same("lost, still from the confirmed one", x.train(0, 4), 2);
        x.report(0, 395, 1);
        Kit.same("confirmed again", x.train(0, 4), 3);

        x.connect(1, 80);
        x.report(1, 180, 1);
        Kit.same("a rear at the very beginning of a subsection", x.train(1, 4), 1);
        x.connect(2, 80);
        x.report(2, 179, 1);
        Kit.same("a metre before", x.train(2, 4), 0);
        x.connect(3, 1000);
        x.report(3, 400, 1);
        Kit.same("longer than the way behind it", x.train(3, 4), 0);
        x.connect(4, 1000);
        x.report(4, 400, 2);
        Kit.same("likewise without confirmation", x.train(4, 4), 0);
    }

    private static void dropped() {
        TrackKeeper x = Kit.begun(1, 9, 9, Kit.of(100));
        x.connect(0, 10);
        Kit.same("first", x.report(0, 50, 0), true);
        Kit.same("back", x.report(0, 49, 0), false);
        Kit.same("the dropped one is no mark", x.report(0, 49, 0), false);
        Kit.same("standing", x.report(0, 50, 0), true);
        Kit.same("on", x.report(0, 51, 0), true);
        x.tick(5);
        Kit.same("back, also when it is not located", x.report(0, 50, 0), false);
        Kit.same("it is not located by that", x.train(0, 1), 0);
    }

    private static void droppedCountsNothing() {
        TrackKeeper x = Kit.begun(3, 2, 9, Kit.of(100, 100));
        x.connect(0, 50);
        x.report(0, 90, 1);
        x.detect(0, true);
        x.report(0, 190, 1);
        Kit.same("before", Kit.states(x), "FA");
        x.report(0, 100, 2);
        Kit.same("no state is found anew", Kit.states(x), "FA");
        Kit.same("the loss does not count", x.train(0, 2), 1);
        x.tick(3);
        x.report(0, 100, 1);
        Kit.same("the confirmation does not count", x.train(0, 2), 0);
        Kit.same("the place does not count", x.train(0, 5), 1);
        x.tick(1);
        Kit.same("the time does not count", x.train(0, 1), 0);
    }

    private static void integrity() {
        TrackKeeper x = Kit.begun(9, 9, 9, Kit.of(100));
        x.connect(0, 5);
        x.report(0, 10, 0);
        Kit.same("nothing", x.train(0, 2), 0);
        x.report(0, 10, 1);
        Kit.same("confirmed", x.train(0, 2), 1);
        x.report(0, 10, 0);
        Kit.same("nothing behind confirmed", x.train(0, 2), 1);
        x.report(0, 10, 2);
        Kit.same("lost", x.train(0, 2), 0);
        x.report(0, 10, 0);
        Kit.same("nothing behind lost", x.train(0, 2), 0);
        x.report(0, 10, 1);
        Kit.same("confirmed behind lost", x.train(0, 2), 1);
    }

    private static void refusals() {
        TrackKeeper x = Kit.laid(Kit.of(10), Kit.of(20));
        Kit.badState("not begun", () -> x.report(0, 0, 0));
        Kit.badState("not begun comes first", () -> x.report(-1, -1, -1));
        x.begin(9, 9, 9);
        Kit.notNow("not connected", () -> x.report(0, 0, 0));
        Kit.badArgument("a wrong train comes first", () -> x.report(8, 0, 0));
        Kit.badArgument("a wrong front comes first", () -> x.report(0, 31, 0));
        Kit.badArgument("a wrong integrity comes first", () -> x.report(0, 0, 3));
        x.connect(0, 5);
        Kit.badArgument("train -1", () -> x.report(-1, 0, 0));
        Kit.badArgument("front -1", () -> x.report(0, -1, 0));
        Kit.badArgument("front beyond the end", () -> x.report(0, 31, 0));
        Kit.badArgument("integrity -1", () -> x.report(0, 0, -1));
        Kit.badArgument("integrity 3", () -> x.report(0, 0, 3));
        Kit.same("none of these located it", x.train(0, 1), 0);
        Kit.same("front at the end", x.report(0, 30, 0), true);
        Kit.badArgument("wrong, and further back", () -> x.report(0, 10, 3));
        x.leave(0);
        Kit.notNow("it left", () -> x.report(0, 30, 0));
    }
}
