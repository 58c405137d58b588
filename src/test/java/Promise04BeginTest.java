/** Promise 4: begin. */
public final class Promise04BeginTest {
    public static void main(String[] args) {
        arguments();
        noTrack();
        anew();
        Kit.end();
    }

    private static void arguments() {
        TrackKeeper x = Kit.laid(Kit.of(3, 4), Kit.of(5));
        for (int wrong : new int[] {0, -1, 100001, Integer.MAX_VALUE}) {
            Kit.badArgument("mute " + wrong, () -> x.begin(wrong, 1, 1));
            Kit.badArgument("keep " + wrong, () -> x.begin(1, wrong, 1));
            Kit.badArgument("spread " + wrong, () -> x.begin(1, 1, wrong));
        }
        Kit.badState("none of these began it", () -> x.state(0));
        Kit.same("least", x.begin(1, 1, 1), 12);
        Kit.same("most", x.begin(100000, 100000, 100000), 12);
        Kit.same("all are free", Kit.states(x), "FFF");
    }

    private static void noTrack() {
        TrackKeeper x = new TrackKeeper();
        Kit.badState("no section", () -> x.begin(1, 1, 1));
        Kit.badArgument("a wrong argument comes first", () -> x.begin(1, 0, 1));
        x.section();
        Kit.badState("a bare section", () -> x.begin(1, 1, 1));
        x.sub(2);
        x.section();
        Kit.badState("a bare section behind another", () -> x.begin(1, 1, 1));
        x.sub(2);
        Kit.same("ready", x.begin(1, 1, 1), 4);
    }

    /** Train 0 has an end, train 1 had one; one was shortened, a spread was due and counts again. */
    private static TrackKeeper wellUsed() {
        TrackKeeper x = Kit.begun(9, 9, 2, Kit.of(10, 10), Kit.of(10));
        x.connect(0, 5);
        x.report(0, 8, 1);
        x.connect(1, 5);
        x.report(1, 8, 1);
        x.request(1, 2);
        x.detect(1, true);
        x.leave(1);
        x.request(0, 1);
        x.tick(3);
        return x;
    }

    private static void anew() {
        TrackKeeper x = wellUsed();
        int[] before = {3, 1, 1, 1, 1, 1};
        for (int what = 2; what <= 7; what++) {
            Kit.same("count(" + what + ") before", x.count(what, 1), before[what - 2]);
        }
        Kit.same("end before", x.train(0, 3), 1);
        Kit.badArgument("a refused begin", () -> x.begin(0, 1, 1));
        Kit.same("a refused begin changes nothing", x.count(2, 0), 3);

        Kit.same("it begins anew", x.begin(1, 2, 3), 30);
        Kit.same("states", Kit.states(x), "FFF");
        for (int what = 2; what <= 7; what++) {
            Kit.same("count(" + what + ") behind begin", x.count(what, 1), 0);
        }
        int[] nothing = {0, 0, 0, -1, -1, -1};
        for (int what = 0; what <= 5; what++) {
            Kit.same("train(0, " + what + ") behind begin", x.train(0, what), nothing[what]);
        }
        x.tick(1);
        Kit.same("the old end is not withdrawn later", x.count(4, 0), 0);
        x.connect(0, 5);
        Kit.same("the old report is forgotten", x.report(0, 1, 0), true);
        x.tick(2);
        Kit.same("the new mute is in force", x.train(0, 1), 0);
    }
}
