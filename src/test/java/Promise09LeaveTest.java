/** Promise 9: leave. */
public final class Promise09LeaveTest {
    public static void main(String[] args) {
        leaves();
        isAnEvent();
        refusals();
        Kit.end();
    }

    private static void leaves() {
        TrackKeeper x = Kit.begun(9, 9, 9, Kit.of(100, 100), Kit.of(100));
        x.connect(6, 50);
        x.report(6, 90, 1);
        x.detect(0, true);
        x.request(6, 2);
        Kit.same("before", Kit.states(x), "OFF");
        x.leave(6);
        Kit.same("not connected", x.train(6, 0), 0);
        Kit.same("not located", x.train(6, 1), 0);
        Kit.same("not whole", x.train(6, 2), 0);
        Kit.same("no end", x.train(6, 3), -1);
        Kit.same("no rear", x.train(6, 4), -1);
        Kit.same("no front", x.train(6, 5), -1);
        Kit.same("withdrawn", x.count(4, 0), 1);
        Kit.same("not shortened", x.count(3, 0), 0);
        Kit.same("what is there now nobody knows", Kit.states(x), "UUF");
        x.connect(6, 50);
        Kit.same("its old report is gone", x.train(6, 1), 0);
        x.leave(6);
        Kit.same("without an end nothing is withdrawn", x.count(4, 0), 1);
    }

    private static void isAnEvent() {
        TrackKeeper x = Kit.begun(9, 9, 9, Kit.of(100, 100));
        x.connect(0, 50);
        x.connect(1, 50);
        x.report(0, 90, 1);
        x.detect(0, true);
        x.report(0, 190, 1);
        Kit.same("before", Kit.states(x), "FA");
        x.leave(1);
        Kit.same("found anew", Kit.states(x), "FO");
    }

    private static void refusals() {
        TrackKeeper x = Kit.laid(Kit.of(10));
        Kit.badState("not begun", () -> x.leave(0));
        Kit.badState("not begun comes first", () -> x.leave(8));
        x.begin(9, 9, 9);
        Kit.badArgument("train -1", () -> x.leave(-1));
        Kit.badArgument("train 8", () -> x.leave(8));
        Kit.notNow("not connected", () -> x.leave(0));
        x.connect(0, 3);
        x.leave(0);
        Kit.notNow("it left before", () -> x.leave(0));
    }
}
