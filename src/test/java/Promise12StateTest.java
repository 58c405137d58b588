/** Promise 12: state, and how the states are found: one part for each line of Terms 3. */
public final class Promise12StateTest {
    public static void main(String[] args) {
        emptyIsFree();
        twoTrains();
        oneTrain();
        oneTrainNotWhole();
        oneTrainOverTwoSections();
        wasOccupied();
        wasAmbiguous();
        wasFree();
        wasFreeAndTrainJustBefore();
        refusals();
        Kit.end();
    }

    private static TrackKeeper twoSections() {
        return Kit.begun(5, 5, 50, Kit.of(100, 100, 100), Kit.of(100, 100));
    }

    private static void emptyIsFree() {
        TrackKeeper x = twoSections();
        x.connect(0, 10);
        x.report(0, 50, 1);
        Kit.same("covered, but empty", Kit.states(x), "FFFFF");
        x.connect(1, 10);
        x.report(1, 50, 1);
        Kit.same("covered twice, but empty", Kit.states(x), "FFFFF");
        x.detect(0, true);
        x.detect(0, false);
        Kit.same("was ambiguous", Kit.states(x), "FFFFF");
        x.detect(1, true);
        Kit.same("unknown", Kit.states(x), "FFFUU");
        x.detect(1, false);
        Kit.same("was unknown", Kit.states(x), "FFFFF");
    }

    private static void twoTrains() {
        TrackKeeper x = twoSections();
        x.connect(0, 80);
        x.connect(1, 80);
        x.report(0, 90, 1);
        x.report(1, 190, 1);
        x.detect(0, true);
        Kit.same("each its own, the one behind was free", Kit.states(x), "OOFFF");
        x.report(0, 110, 1);
        Kit.same("both in one; the second has one behind it", Kit.states(x), "OAFFF");
        x.connect(2, 80);
        x.report(2, 190, 1);
        Kit.same("three in one", Kit.states(x), "OAFFF");
    }

    private static void oneTrain() {
        TrackKeeper x = twoSections();
        x.connect(0, 10);
        x.report(0, 150, 1);
        x.detect(0, true);
        Kit.same("the one behind was free", Kit.states(x), "FOFFF");

        TrackKeeper y = twoSections();
        y.detect(0, true);
        y.connect(0, 10);
        y.report(0, 50, 1);
        Kit.same("in the first one", Kit.states(y), "OUUFF");
        y.report(0, 150, 1);
        Kit.same("the one behind was occupied", Kit.states(y), "FAUFF");
        y.report(0, 150, 1);
        Kit.same("the one behind was free", Kit.states(y), "FOUFF");

        TrackKeeper z = twoSections();
        z.detect(0, true);
        z.connect(0, 10);
        z.report(0, 250, 1);
        Kit.same("the one behind was unknown", Kit.states(z), "UUAFF");
        z.report(0, 260, 1);
        Kit.same("and is", Kit.states(z), "UUAFF");
    }

    private static void oneTrainNotWhole() {
        TrackKeeper x = twoSections();
        x.connect(0, 10);
        x.report(0, 50, 0);
        x.detect(0, true);
        Kit.same("never confirmed", Kit.states(x), "AFFFF");
        x.report(0, 50, 1);
        Kit.same("confirmed", Kit.states(x), "OFFFF");
        x.report(0, 50, 2);
        Kit.same("lost", Kit.states(x), "AFFFF");
    }

    private static void oneTrainOverTwoSections() {
        TrackKeeper x = twoSections();
        x.connect(0, 100);
        x.report(0, 350, 1);
        x.detect(0, true);
        x.detect(1, true);
        Kit.same("its first one is in section 0", Kit.states(x), "FFOOF");
        x.connect(1, 10);
        x.report(1, 150, 1);
        Kit.same("looks at what was free", Kit.states(x), "FOOOF");
        x.report(1, 160, 1);
        Kit.same("the first of a section, and not the first of all it covers", Kit.states(x), "FOAAF");
        x.report(0, 400, 1);
        Kit.same("it left section 0: the first of section 1", Kit.states(x), "FOUOO");
    }

    private static void wasOccupied() {
        TrackKeeper x = twoSections();
        x.connect(0, 80);
        x.report(0, 90, 1);
        x.detect(0, true);
        x.report(0, 190, 0);
        Kit.same("drawn long", Kit.states(x), "OOFFF");
        x.report(0, 190, 1);
        Kit.same("whole and gone on: free", Kit.states(x), "FAFFF");

        TrackKeeper y = twoSections();
        y.connect(0, 80);
        y.report(0, 90, 1);
        y.detect(0, true);
        y.tick(6);
        Kit.same("not located: unknown", Kit.states(y), "UUUFF");

        TrackKeeper z = twoSections();
        z.connect(0, 80);
        z.connect(1, 80);
        z.report(0, 90, 1);
        z.report(1, 190, 1);
        z.detect(0, true);
        z.leave(0);
        Kit.same("only the train that covered it may free it", Kit.states(z), "UAFFF");

        TrackKeeper w = twoSections();
        w.connect(5, 80);
        w.connect(7, 80);
        w.report(7, 90, 1);
        w.detect(0, true);
        w.report(5, 390, 1);
        w.report(7, 190, 1);
        Kit.same("a train of any number frees it", Kit.states(w), "FAFFF");
    }

    private static void wasAmbiguous() {
        TrackKeeper x = twoSections();
        x.connect(0, 80);
        x.report(0, 90, 0);
        x.detect(0, true);
        Kit.same("not whole", Kit.states(x), "AFFFF");
        x.report(0, 190, 1);
        Kit.same("whole too late", Kit.states(x), "UAFFF");
        x.report(0, 190, 1);
        Kit.same("unknown stays", Kit.states(x), "UAFFF");
    }

    private static void wasFree() {
        TrackKeeper x = twoSections();
        x.connect(0, 10);
        x.report(0, 150, 1);
        x.detect(1, true);
        Kit.same("a train two before the section", Kit.states(x), "FFFUU");
        x.detect(1, false);
        x.report(0, 350, 1);
        x.detect(0, true);
        Kit.same("a train beyond the section", Kit.states(x), "UUUFF");
        x.detect(1, true);
        Kit.same("a train in the section", Kit.states(x), "UUUOF");
    }

    private static void wasFreeAndTrainJustBefore() {
        TrackKeeper x = twoSections();
        x.connect(0, 10);
        x.report(0, 299, 0);
        x.detect(1, true);
        Kit.same("a located train just before", Kit.states(x), "FFFFF");
        x.tick(5);
        Kit.same("still located", Kit.states(x), "FFFFF");
        x.tick(1);
        Kit.same("not located any more", Kit.states(x), "FFFUU");
        x.report(0, 299, 0);
        Kit.same("unknown stays", Kit.states(x), "FFFUU");
    }

    private static void refusals() {
        TrackKeeper x = Kit.laid(Kit.of(10, 10));
        Kit.badState("not begun", () -> x.state(0));
        Kit.badState("not begun comes first", () -> x.state(2));
        x.begin(9, 9, 9);
        Kit.same("the first", x.state(0), TrackKeeper.FREE);
        Kit.same("the last", x.state(1), TrackKeeper.FREE);
        Kit.badArgument("-1", () -> x.state(-1));
        Kit.badArgument("2", () -> x.state(2));
        x.detect(0, true);
        Kit.same("unknown", x.state(1), TrackKeeper.UNKNOWN);
        x.connect(0, 1);
        x.report(0, 5, 0);
        Kit.same("ambiguous", x.state(0), TrackKeeper.AMBIGUOUS);
        x.report(0, 5, 1);
        Kit.same("occupied", x.state(0), TrackKeeper.OCCUPIED);
    }
}
