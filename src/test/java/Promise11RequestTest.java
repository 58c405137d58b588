/** Promise 11: request, and how authorities are shortened and withdrawn. */
public final class Promise11RequestTest {
    public static void main(String[] args) {
        extent();
        stopsAtWhatIsNotFree();
        stopsAtOthers();
        shortened();
        shortenedToNothing();
        reached();
        onTheLongestTrack();
        refusals();
        Kit.end();
    }

    private static TrackKeeper withTrainAtTheBeginning() {
        TrackKeeper x = Kit.begun(50, 50, 50, Kit.of(100, 100), Kit.of(100), Kit.of(100), Kit.of(100, 100));
        x.connect(0, 10);
        x.report(0, 50, 0);
        return x;
    }

    private static void extent() {
        TrackKeeper x = withTrainAtTheBeginning();
        Kit.same("its own subsection", x.request(0, 0), -1);
        Kit.same("the next one", x.request(0, 1), 1);
        Kit.same("further", x.request(0, 3), 3);
        Kit.same("less leaves the end", x.request(0, 2), 3);
        Kit.same("its own leaves the end", x.request(0, 0), 3);
        Kit.same("the last one", x.request(0, 5), 5);
        Kit.same("told by train as well", x.train(0, 3), 5);
        x.report(0, 250, 0);
        Kit.same("one behind it", x.request(0, 0), 5);

        x.connect(1, 10);
        x.report(1, 600, 0);
        Kit.same("at the end of the track", x.request(1, 5), -1);
        Kit.same("nothing is counted", x.count(3, 0) + x.count(4, 0), 0);
    }

    private static void stopsAtWhatIsNotFree() {
        TrackKeeper x = withTrainAtTheBeginning();
        x.detect(2, true);
        Kit.same("up to before the unknown one", x.request(0, 5), 2);
        x.detect(2, false);
        Kit.same("free again: the end was not moved by itself", x.train(0, 3), 2);
        x.detect(1, true);
        Kit.same("shortened", x.train(0, 3), 1);
        Kit.same("not beyond", x.request(0, 5), 1);
        x.detect(0, true);
        Kit.same("an unconfirmed train in its own section", Kit.states(x), "AFUFFF");
        Kit.same("its own state is of no matter", x.request(0, 5), 1);
    }

    private static void stopsAtOthers() {
        TrackKeeper x = withTrainAtTheBeginning();
        x.connect(7, 10);
        x.report(7, 250, 0);
        Kit.same("the other one", x.request(7, 4), 4);
        Kit.same("behind the other's front's one", x.request(0, 5), 2);
        x.connect(3, 10);
        x.report(3, 450, 0);
        Kit.same("beyond the other's end", x.request(3, 5), 5);
        Kit.same("in the other's authority itself, on to its end", x.request(7, 5), 4);
        x.connect(6, 10);
        x.report(6, 50, 0);
        Kit.same("the one beside it has all", x.request(6, 5), -1);
        x.leave(7);
        Kit.same("once the other has none", x.request(0, 5), 4);
        x.leave(3);
        Kit.same("and the third has none", x.request(0, 5), 5);
    }

    private static void shortened() {
        TrackKeeper x = withTrainAtTheBeginning();
        x.request(0, 5);
        x.connect(2, 10);
        x.report(2, 250, 0);
        x.detect(3, true);
        Kit.same("before section 3", x.train(0, 3), 3);
        Kit.same("once", x.count(3, 0), 1);
        x.tick(3);
        Kit.same("no more than once", x.count(3, 0), 1);
        x.detect(1, true);
        Kit.same("before the first that is not free", x.train(0, 3), 1);
        Kit.same("twice", x.count(3, 0), 2);
        Kit.same("none withdrawn", x.count(4, 0), 0);
        x.detect(1, false);
        x.detect(3, false);
        x.request(2, 5);
        x.request(0, 2);
        x.detect(2, true);
        Kit.same("the other stands before it: free", x.train(2, 3), 5);
        x.detect(3, true);
        Kit.same("only the other's end", x.train(2, 3), 3);
        Kit.same("the first keeps its own", x.train(0, 3), 2);
        Kit.same("counted once", x.count(3, 0), 3);
    }

    private static void shortenedToNothing() {
        TrackKeeper x = withTrainAtTheBeginning();
        x.request(0, 3);
        x.connect(1, 10);
        x.report(1, 150, 1);
        x.detect(0, true);
        Kit.same("another one stands just before it", Kit.states(x), "AOFFFF");
        Kit.same("none", x.train(0, 3), -1);
        Kit.same("counted as shortened", x.count(3, 0), 1);
        Kit.same("and not as withdrawn", x.count(4, 0), 0);
    }

    private static void reached() {
        TrackKeeper x = withTrainAtTheBeginning();
        x.request(0, 2);
        x.report(0, 199, 0);
        Kit.same("just before its end", x.train(0, 3), 2);
        x.report(0, 200, 0);
        Kit.same("in its end: none", x.train(0, 3), -1);
        x.request(0, 3);
        x.report(0, 450, 0);
        Kit.same("beyond its end: none", x.train(0, 3), -1);
        Kit.same("never shortened", x.count(3, 0), 0);
        Kit.same("never withdrawn", x.count(4, 0), 0);
    }

    private static void onTheLongestTrack() {
        TrackKeeper x = new TrackKeeper();
        x.section();
        for (int i = 0; i < 32; i++) {
            x.sub(100000);
        }
        x.begin(9, 9, 9);
        x.connect(0, 100000);
        x.report(0, 0, 1);
        Kit.same("to the last of 32", x.request(0, 31), 31);
        x.tick(1);
        Kit.same("kept", x.train(0, 3), 31);
        x.detect(0, true);
        Kit.same("kept in an occupied section", x.train(0, 3), 31);
        x.report(0, 3200000, 1);
        Kit.same("at the end of the track", x.train(0, 5), 31);
        Kit.same("none any more", x.train(0, 3), -1);
        Kit.same("no further", x.request(0, 31), -1);
    }

    private static void refusals() {
        TrackKeeper x = Kit.laid(Kit.of(10), Kit.of(10));
        Kit.badState("not begun", () -> x.request(0, 0));
        Kit.badState("not begun comes first", () -> x.request(8, 2));
        x.begin(2, 9, 9);
        Kit.notNow("not connected", () -> x.request(0, 1));
        x.connect(0, 3);
        Kit.notNow("no report", () -> x.request(0, 1));
        Kit.badArgument("a wrong train comes first", () -> x.request(8, 1));
        Kit.badArgument("a wrong subsection comes first", () -> x.request(0, 2));
        x.report(0, 3, 0);
        Kit.badArgument("train -1", () -> x.request(-1, 1));
        Kit.badArgument("subsection -1", () -> x.request(0, -1));
        Kit.badArgument("subsection 2", () -> x.request(0, 2));
        Kit.same("no end by these", x.train(0, 3), -1);
        Kit.same("1", x.request(0, 1), 1);
        x.tick(3);
        Kit.notNow("not located any more", () -> x.request(0, 1));
    }
}
