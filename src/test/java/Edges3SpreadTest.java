/** The edges of Terms 3, SPREAD: when a SECTION counts, when it is due, when it is 0 again. */
public final class Edges3SpreadTest {
    public static void main(String[] args) {
        countsOnlyIfNotEmptyAndUnknown();
        from0WhenBothBeginToHold();
        countsBeforeAllIsFoundAnew();
        dueWhenItHasCountedSpread();
        theShortestSpread();
        theLongestSpread();
        dueForThatOnce();
        dueInItsOwnSectionAlone();
        dueWhereNothingIsFree();
        coveredOnesAreNotReached();
        dueComesBeforeATrainJustBefore();
        zeroWhenEmpty();
        zeroWhenNothingIsUnknown();
        goesOnWhenAnotherIsUnknown();
        tenSectionsAtOnce();
        Kit.end();
    }

    /** Train 0 stands in subsection 1; subsection 3 is unknown, 0 and 2 are free. */
    private static TrackKeeper withUnknown(int spread) {
        TrackKeeper x = Kit.begun(100000, 100000, spread, Kit.of(10, 10, 10, 10), Kit.of(10));
        x.connect(0, 2);
        x.report(0, 15, 1);
        x.connect(1, 2);
        x.report(1, 35, 1);
        x.detect(0, true);
        x.leave(1);
        Kit.same("one is unknown", Kit.states(x), "FOFUF");
        return x;
    }

    private static void countsOnlyIfNotEmptyAndUnknown() {
        TrackKeeper x = Kit.begun(9, 9, 5, Kit.of(10), Kit.of(10), Kit.of(10));
        x.connect(0, 5);
        x.report(0, 9, 1);
        x.detect(0, true);
        x.detect(2, true);
        Kit.same("not empty and known, empty, not empty and unknown", Kit.states(x), "OFU");
        x.tick(4);
        Kit.same("known", x.count(6, 0), 0);
        Kit.same("empty", x.count(6, 1), 0);
        Kit.same("unknown", x.count(6, 2), 4);
    }

    private static void from0WhenBothBeginToHold() {
        TrackKeeper x = Kit.begun(9, 9, 5, Kit.of(10));
        x.tick(3);
        x.detect(0, true);
        Kit.same("at once", x.count(6, 0), 0);
        x.detect(0, true);
        Kit.same("told again", x.count(6, 0), 0);
        x.tick(1);
        Kit.same("one tick", x.count(6, 0), 1);
        x.detect(0, true);
        Kit.same("told again behind a tick", x.count(6, 0), 1);
    }

    private static void countsBeforeAllIsFoundAnew() {
        TrackKeeper x = Kit.begun(2, 9, 1, Kit.of(10, 10));
        x.connect(0, 5);
        x.report(0, 8, 1);
        x.detect(0, true);
        x.tick(2);
        Kit.same("the train is located", Kit.states(x), "OF");
        x.tick(1);
        Kit.same("it becomes unknown at this tick", Kit.states(x), "UU");
        Kit.same("which did not count", x.count(5, 0), 0);
        x.tick(1);
        Kit.same("the next one does", x.count(5, 0), 1);
    }

    private static void dueWhenItHasCountedSpread() {
        TrackKeeper x = withUnknown(4);
        for (int counted = 1; counted <= 3; counted++) {
            x.tick(1);
            Kit.same("counted", x.count(6, 0), counted);
            Kit.same("not due", Kit.states(x), "FOFUF");
        }
        x.tick(1);
        Kit.same("due", Kit.states(x), "UOUUF");
        Kit.same("from 0 again", x.count(6, 0), 0);
        Kit.same("once", x.count(5, 0), 1);
        x.tick(3);
        Kit.same("not due again", x.count(5, 0), 1);
        Kit.same("counted again", x.count(6, 0), 3);
        x.tick(1);
        Kit.same("due again", x.count(5, 0), 2);
    }

    private static void theShortestSpread() {
        TrackKeeper x = withUnknown(1);
        x.tick(1);
        Kit.same("due at the first tick", Kit.states(x), "UOUUF");
        Kit.same("nothing is ever counted", x.count(6, 0), 0);
        x.tick(9);
        Kit.same("due at each tick", x.count(5, 0), 10);
    }

    private static void theLongestSpread() {
        TrackKeeper x = withUnknown(100000);
        Kit.tickLong(x, 99999);
        Kit.same("counted", x.count(6, 0), 99999);
        Kit.same("not due", Kit.states(x), "FOFUF");
        x.tick(1);
        Kit.same("due", Kit.states(x), "UOUUF");
        Kit.same("from 0 again", x.count(6, 0), 0);
    }

    private static void dueForThatOnce() {
        TrackKeeper x = withUnknown(2);
        x.tick(2);
        Kit.same("due", Kit.states(x), "UOUUF");
        x.report(0, 25, 1);
        x.tick(1);
        Kit.same("what the train frees behind that tick stays free", Kit.states(x), "UFOUF");
        x.tick(1);
        Kit.same("until it is due the next time", Kit.states(x), "UUOUF");
    }

    private static void dueInItsOwnSectionAlone() {
        TrackKeeper x = Kit.begun(100, 100, 3, Kit.of(10, 10), Kit.of(10, 10), Kit.of(10, 10));
        x.connect(0, 2);
        x.report(0, 5, 1);
        x.connect(1, 2);
        x.report(1, 25, 0);
        x.connect(2, 2);
        x.report(2, 45, 1);
        for (int section = 0; section < 3; section++) {
            x.detect(section, true);
        }
        x.report(1, 35, 1);
        Kit.same("section 1 has an unknown one", Kit.states(x), "OFUAOF");
        x.tick(3);
        Kit.same("the others keep their free ones", Kit.states(x), "OFUAOF");
        Kit.same("due in section 1 alone", x.count(5, 0), 1);
        x.tick(30);
        Kit.same("and ever after", Kit.states(x), "OFUAOF");
    }

    private static void dueWhereNothingIsFree() {
        TrackKeeper x = Kit.begun(9, 9, 2, Kit.of(10));
        x.detect(0, true);
        x.tick(2);
        Kit.same("counted as due", x.count(5, 0), 1);
        Kit.same("unknown as before", Kit.states(x), "U");
    }

    private static void coveredOnesAreNotReached() {
        TrackKeeper x = withUnknown(1);
        x.tick(1);
        Kit.same("the one with the train", x.state(1), TrackKeeper.OCCUPIED);
        x.tick(1);
        Kit.same("is not unknown", x.state(1), TrackKeeper.AMBIGUOUS);
    }

    private static void dueComesBeforeATrainJustBefore() {
        TrackKeeper x = Kit.begun(100, 100, 3, Kit.of(10), Kit.of(10, 10));
        x.connect(0, 2);
        x.report(0, 5, 1);
        x.connect(1, 2);
        x.report(1, 15, 1);
        x.detect(1, true);
        x.leave(1);
        Kit.same("a train just before it keeps the other one free", Kit.states(x), "FUF");
        x.tick(2);
        Kit.same("not due", Kit.states(x), "FUF");
        x.tick(1);
        Kit.same("due", Kit.states(x), "FUU");
    }

    private static void zeroWhenEmpty() {
        TrackKeeper x = Kit.begun(9, 9, 5, Kit.of(10), Kit.of(10));
        x.detect(0, true);
        x.detect(1, true);
        x.tick(4);
        x.detect(0, false);
        Kit.same("empty", x.count(6, 0), 0);
        Kit.same("the other one goes on", x.count(6, 1), 4);
        x.detect(0, true);
        Kit.same("from 0", x.count(6, 0), 0);
        x.tick(1);
        Kit.same("one", x.count(6, 0), 1);
        Kit.same("the other one was due", x.count(5, 0), 1);
    }

    private static void zeroWhenNothingIsUnknown() {
        TrackKeeper x = withUnknown(5);
        x.tick(4);
        x.connect(1, 2);
        Kit.same("unknown still", x.count(6, 0), 4);
        x.report(1, 35, 1);
        Kit.same("a train covers what was unknown", Kit.states(x), "FOFOF");
        Kit.same("so it is 0", x.count(6, 0), 0);
        x.leave(1);
        Kit.same("unknown anew", x.count(6, 0), 0);
        x.tick(4);
        Kit.same("from 0", x.count(6, 0), 4);
        Kit.same("never due", x.count(5, 0), 0);
        x.begin(9, 9, 5);
        Kit.same("0 when it begins anew", x.count(6, 0), 0);
    }

    private static void goesOnWhenAnotherIsUnknown() {
        TrackKeeper x = Kit.begun(100, 100, 5, Kit.of(10, 10));
        x.connect(0, 2);
        x.report(0, 5, 0);
        x.detect(0, true);
        x.connect(1, 2);
        x.report(1, 15, 0);
        x.leave(1);
        Kit.same("the second is unknown", Kit.states(x), "AU");
        x.tick(3);
        x.report(0, 15, 1);
        Kit.same("now the first is, and the second is not", Kit.states(x), "UA");
        Kit.same("it counts on", x.count(6, 0), 3);
        x.tick(2);
        Kit.same("due", x.count(5, 0), 1);
    }

    private static void tenSectionsAtOnce() {
        TrackKeeper x = new TrackKeeper();
        for (int section = 0; section < 10; section++) {
            x.section();
            x.sub(1);
        }
        x.begin(9, 9, 2);
        for (int section = 0; section < 10; section++) {
            x.detect(section, true);
        }
        x.tick(1);
        Kit.same("the first", x.count(6, 0), 1);
        Kit.same("the last", x.count(6, 9), 1);
        x.tick(1);
        Kit.same("each is due", x.count(5, 0), 10);
    }
}
