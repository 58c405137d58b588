/** Promise 13: train. */
public final class Promise13TrainTest {
    public static void main(String[] args) {
        whatIsTold();
        refusals();
        Kit.end();
    }

    private static void tells(String when, TrackKeeper x, int train, int... due) {
        for (int what = 0; what <= 5; what++) {
            Kit.same(when + ": " + what + " of train " + train, x.train(train, what), due[what]);
        }
    }

    private static void whatIsTold() {
        TrackKeeper x = Kit.begun(2, 1, 50, Kit.of(100, 100), Kit.of(100, 100));
        tells("at first", x, 7, 0, 0, 0, -1, -1, -1);
        x.connect(7, 120);
        tells("connected", x, 7, 1, 0, 0, -1, -1, -1);
        x.report(7, 230, 0);
        tells("located", x, 7, 1, 1, 0, -1, 1, 2);
        x.report(7, 230, 1);
        x.request(7, 3);
        tells("whole, with an end", x, 7, 1, 1, 1, 3, 1, 2);
        tells("another one", x, 0, 0, 0, 0, -1, -1, -1);
        x.tick(2);
        tells("confirmed too long ago", x, 7, 1, 1, 0, 3, 1, 2);
        x.tick(1);
        tells("mute", x, 7, 1, 0, 0, -1, -1, -1);
        x.report(7, 400, 1);
        tells("back", x, 7, 1, 1, 1, -1, 2, 3);
        x.leave(7);
        tells("it left", x, 7, 0, 0, 0, -1, -1, -1);
    }

    private static void refusals() {
        TrackKeeper x = Kit.laid(Kit.of(10));
        Kit.badState("not begun", () -> x.train(0, 0));
        Kit.badState("not begun comes first", () -> x.train(8, 6));
        x.begin(9, 9, 9);
        Kit.badArgument("train -1", () -> x.train(-1, 0));
        Kit.badArgument("train 8", () -> x.train(8, 0));
        Kit.badArgument("what -1", () -> x.train(0, -1));
        Kit.badArgument("what 6", () -> x.train(0, 6));
    }
}
