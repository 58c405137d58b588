/** The edges of Terms 1, THE TRACK: a part for each limit and each place that it names. */
public final class Edges1TrackTest {
    public static void main(String[] args) {
        nothingOfATrack();
        upToTenSections();
        oneOrMoreSubsectionsEach();
        upTo32SubsectionsInAll();
        noSubsectionIsLeftForASection();
        lengthsFrom1To100000();
        placesToTheMetre();
        placesOfLongSubsections();
        theEndIsInTheLastOne();
        theShortestTrack();
        Kit.end();
    }

    private static void nothingOfATrack() {
        TrackKeeper x = new TrackKeeper();
        Kit.same("a new object", Kit.told(x), "counts 0 0 0 0 0 0 not begun");
        x.clear();
        Kit.same("cleared before anything", Kit.told(x), "counts 0 0 0 0 0 0 not begun");
        Kit.same("its first section", x.section(), 0);
    }

    private static void upToTenSections() {
        TrackKeeper x = new TrackKeeper();
        for (int i = 0; i < 10; i++) {
            Kit.same("number of a section", x.section(), i);
            Kit.same("number of its subsection", x.sub(10), i);
        }
        Kit.tooMany("an eleventh section", x::section);
        Kit.same("a further subsection of the tenth", x.sub(10), 10);
        Kit.tooMany("an eleventh section still", x::section);
        Kit.same("the length of all ten", x.begin(9, 9, 9), 110);
        x.detect(9, true);
        Kit.same("section 9 has the last two", Kit.states(x), "FFFFFFFFFUU");
        Kit.same("section 9 is not empty", x.count(7, 9), 1);
        Kit.badArgument("no section 10 to detect", () -> x.detect(10, true));
        Kit.badArgument("no section 10 to count", () -> x.count(7, 10));
    }

    private static void oneOrMoreSubsectionsEach() {
        TrackKeeper x = new TrackKeeper();
        x.section();
        Kit.badState("none: no further section", x::section);
        Kit.badState("none: no begin", () -> x.begin(1, 1, 1));
        Kit.same("none: one section", Kit.told(x), "counts 1 0 0 0 0 0 section 0 0 not begun");
        x.sub(10);
        Kit.same("one: a further section", x.section(), 1);
        Kit.badState("none in the second: no further section", x::section);
        Kit.badState("none in the second: no begin", () -> x.begin(1, 1, 1));
        x.sub(10);
        Kit.same("one each: begin", x.begin(1, 1, 1), 20);
    }

    private static void upTo32SubsectionsInAll() {
        TrackKeeper x = new TrackKeeper();
        int subs = 0;
        for (int section = 0; section < 10; section++) {
            x.section();
            for (int i = 0; i < (section < 9 ? 3 : 5); i++) {
                Kit.same("number of a subsection", x.sub(10), subs);
                subs++;
            }
        }
        Kit.tooMany("a 33rd", () -> x.sub(10));
        Kit.tooMany("an eleventh section behind the 33rd", x::section);
        Kit.same("32", x.count(1, 0), 32);
        Kit.same("the length without the 33rd", x.begin(9, 9, 9), 320);
        for (int section = 0; section < 10; section++) {
            x.detect(section, section % 2 == 1);
        }
        Kit.same("each section has its own", Kit.states(x), "FFFUUUFFFUUUFFFUUUFFFUUUFFFUUUUU");
        Kit.badArgument("no state of a 33rd", () -> x.state(32));
    }

    private static void noSubsectionIsLeftForASection() {
        TrackKeeper x = Kit.laid(Kit.metres(32));
        Kit.same("a second section", x.section(), 1);
        Kit.tooMany("none is left for it", () -> x.sub(1));
        Kit.badState("so it does not begin", () -> x.begin(1, 1, 1));
        Kit.badState("and has no further section", x::section);
        x.clear();
        x.section();
        Kit.same("behind clear there are 32 again", x.sub(1), 0);

        TrackKeeper y = Kit.laid(Kit.metres(31), Kit.metres(1));
        Kit.same("the last one stands alone in its section", y.begin(9, 9, 9), 32);
        y.detect(1, true);
        Kit.same("it is section 1", y.state(31), TrackKeeper.UNKNOWN);
        Kit.same("the one before is not", y.state(30), TrackKeeper.FREE);
    }

    private static void lengthsFrom1To100000() {
        TrackKeeper x = new TrackKeeper();
        x.section();
        for (int wrong : new int[] {0, -1, Integer.MIN_VALUE, 100001, Integer.MAX_VALUE}) {
            Kit.badArgument("length " + wrong, () -> x.sub(wrong));
        }
        Kit.same("1", x.sub(1), 0);
        Kit.same("2", x.sub(2), 1);
        Kit.same("99999", x.sub(99999), 2);
        Kit.same("100000", x.sub(100000), 3);
        Kit.same("in all", x.begin(1, 1, 1), 200002);
    }

    private static void placesToTheMetre() {
        TrackKeeper x = Kit.begun(9, 9, 9, Kit.metres(10), Kit.metres(22));
        x.connect(0, 1);
        for (int place = 0; place <= 32; place++) {
            x.report(0, place, 1);
            Kit.same("place " + place, x.train(0, 5), Math.min(place, 31));
            Kit.same("the place before " + place, x.train(0, 4), Math.max(place - 1, 0));
        }
    }

    private static void placesOfLongSubsections() {
        TrackKeeper x = Kit.begun(9, 9, 9, Kit.of(100000, 1), Kit.of(100000), Kit.of(2, 100000));
        int[][] placeAndSub = {
            {0, 0}, {1, 0}, {99999, 0}, {100000, 1}, {100001, 2}, {200000, 2}, {200001, 3}, {200002, 3}, {200003, 4}, {300002, 4},
        };
        x.connect(0, 1);
        for (int[] pair : placeAndSub) {
            x.report(0, pair[0], 0);
            Kit.same("place " + pair[0], x.train(0, 5), pair[1]);
        }
    }

    private static void theEndIsInTheLastOne() {
        for (int last : new int[] {1, 2, 100000}) {
            TrackKeeper x = Kit.begun(9, 9, 9, Kit.of(10, 10), Kit.of(10), Kit.of(last));
            x.connect(0, 1);
            Kit.same("the end is a place", x.report(0, 30 + last, 1), true);
            Kit.same("in the last one", x.train(0, 5), 3);
            Kit.same("and so is the metre before", x.train(0, 4), 3);
            Kit.badArgument("a metre beyond is none", () -> x.report(0, 31 + last, 1));
            x.detect(2, true);
            Kit.same("it covers the last one", Kit.states(x), "FFFO");
        }
    }

    private static void theShortestTrack() {
        TrackKeeper x = Kit.begun(9, 9, 9, Kit.of(1));
        x.connect(0, 1);
        Kit.badArgument("place -1", () -> x.report(0, -1, 1));
        Kit.badArgument("place 2", () -> x.report(0, 2, 1));
        Kit.same("place 0", x.report(0, 0, 1), true);
        Kit.same("its subsection", x.train(0, 5), 0);
        Kit.same("place 1", x.report(0, 1, 1), true);
        Kit.same("its subsection, at the end", x.train(0, 5), 0);
        Kit.same("nothing lies behind it", x.request(0, 0), -1);
    }
}
