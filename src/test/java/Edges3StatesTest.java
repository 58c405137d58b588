/** The edges of Terms 3, STATES of SUBSECTIONS: a part for each condition, just holding and just not. */
public final class Edges3StatesTest {
    public static void main(String[] args) {
        atFirstAllAreFree();
        anEmptySectionIsFree();
        twoOrMoreTrains();
        oneTrainMustBeWhole();
        theFirstOfItsSection();
        theOneBeforeWasFree();
        beforeAllIsFoundAnew();
        overTwoSections();
        wasUnknown();
        wasAmbiguous();
        wasOccupiedAndTheRearIsLater();
        wasOccupiedAndTheTrainIsNotWhole();
        noTrainInTheSection();
        aFrontJustBeforeTheSection();
        nothingIsBeforeTheFirstSection();
        onlyEventsAndTicksFindAnew();
        Kit.end();
    }

    private static void atFirstAllAreFree() {
        TrackKeeper x = Kit.begun(1, 1, 1, Kit.metres(16), Kit.metres(16));
        Kit.same("all", Kit.states(x), "F".repeat(32));
        Kit.same("section 0 is empty", x.count(7, 0), 0);
        Kit.same("section 1 is empty", x.count(7, 1), 0);
        x.tick(1000);
        Kit.same("as long as they are empty", Kit.states(x), "F".repeat(32));
        x.detect(0, true);
        x.detect(1, true);
        Kit.same("all are told of", Kit.states(x), "U".repeat(32));
        x.begin(1, 1, 1);
        Kit.same("begun anew", Kit.states(x), "F".repeat(32));
        x.tick(1);
        Kit.same("the sections are empty anew", Kit.states(x), "F".repeat(32));
    }

    private static void anEmptySectionIsFree() {
        TrackKeeper x = Kit.begun(9, 9, 1, Kit.of(10, 10), Kit.of(10));
        x.connect(0, 5);
        x.report(0, 8, 1);
        x.connect(1, 5);
        x.report(1, 18, 0);
        x.connect(2, 5);
        x.detect(0, true);
        x.detect(1, true);
        x.report(2, 19, 1);
        Kit.same("occupied, ambiguous, and a train before the last", Kit.states(x), "OAF");
        x.detect(0, false);
        Kit.same("empty, although trains are there", Kit.states(x), "FFF");
        x.leave(1);
        x.leave(2);
        x.tick(1);
        Kit.same("unknown, the empty one free", Kit.states(x), "FFU");
        x.detect(1, false);
        Kit.same("unknown before, empty now", Kit.states(x), "FFF");
    }

    private static void twoOrMoreTrains() {
        TrackKeeper x = Kit.begun(9, 9, 9, Kit.of(10, 10), Kit.of(10));
        x.detect(0, true);
        for (int train = 0; train < 8; train++) {
            x.connect(train, 5);
            x.report(train, 8, 1);
            Kit.same((train + 1) + " of them", x.state(0), train == 0 ? TrackKeeper.OCCUPIED : TrackKeeper.AMBIGUOUS);
        }
        for (int train = 0; train < 7; train++) {
            Kit.same("before " + train + " leaves", x.state(0), TrackKeeper.AMBIGUOUS);
            x.leave(train);
        }
        Kit.same("one alone again", x.state(0), TrackKeeper.OCCUPIED);
        x.connect(0, 5);
        x.report(0, 12, 0);
        Kit.same("they share one; the second one's is not confirmed", Kit.states(x), "AAF");
        x.report(0, 16, 1);
        Kit.same("they share none", Kit.states(x), "OAF");
    }

    private static void oneTrainMustBeWhole() {
        TrackKeeper x = Kit.begun(9, 2, 9, Kit.of(10, 10));
        x.connect(0, 5);
        x.report(0, 8, 1);
        x.detect(0, true);
        x.tick(2);
        Kit.same("confirmed 2 ago", Kit.states(x), "OF");
        x.tick(1);
        Kit.same("confirmed 3 ago", Kit.states(x), "AF");
        x.report(0, 8, 1);
        Kit.same("confirmed now", Kit.states(x), "OF");
        x.report(0, 8, 2);
        Kit.same("lost now", Kit.states(x), "AF");
    }

    /** Two sections that tell of something unknown, and a train that begins at that place. */
    private static String withTrainAt(int front, int length) {
        TrackKeeper x = Kit.begun(9, 9, 9, Kit.metres(3), Kit.metres(3));
        x.detect(0, true);
        x.detect(1, true);
        x.connect(0, length);
        x.report(0, front, 1);
        return Kit.states(x);
    }

    private static void theFirstOfItsSection() {
        Kit.same("the first of the track", withTrainAt(0, 1), "OUUUUU");
        Kit.same("the first of the track, and on", withTrainAt(1, 1), "OOUUUU");
        Kit.same("the second of a section", withTrainAt(2, 1), "UAAUUU");
        Kit.same("the last of a section, on into the next", withTrainAt(3, 1), "UUAAUU");
        Kit.same("the first of the next, an unknown one before it", withTrainAt(4, 1), "UUUOOU");
        Kit.same("the second of the next", withTrainAt(5, 1), "UUUUAA");
        Kit.same("the first of the track, on into the next section", withTrainAt(4, 4), "OOOOOU");
    }

    private static void theOneBeforeWasFree() {
        TrackKeeper x = Kit.begun(9, 9, 9, Kit.metres(4));
        x.connect(0, 1);
        x.report(0, 2, 1);
        x.detect(0, true);
        Kit.same("free before it", Kit.states(x), "FOOF");
        x.connect(1, 1);
        x.report(1, 0, 1);
        Kit.same("occupied now, it was free", Kit.states(x), "OOOF");
        x.tick(1);
        Kit.same("it was occupied", Kit.states(x), "OAAF");
        x.report(1, 0, 2);
        x.tick(1);
        Kit.same("it was ambiguous", Kit.states(x), "AAAF");
        x.leave(1);
        x.tick(1);
        Kit.same("it was unknown", Kit.states(x), "UAAF");
    }

    private static void beforeAllIsFoundAnew() {
        TrackKeeper x = Kit.begun(9, 9, 9, Kit.metres(5));
        x.connect(0, 1);
        x.report(0, 1, 1);
        x.detect(0, true);
        x.report(0, 2, 1);
        Kit.same("the one before becomes free only now", Kit.states(x), "FAAFF");
        x.tick(1);
        Kit.same("it was free before", Kit.states(x), "FOOFF");
        x.report(0, 4, 1);
        Kit.same("the one just before it was occupied", Kit.states(x), "FFFAA");
        x.tick(1);
        Kit.same("free before", Kit.states(x), "FFFOO");
    }

    private static void overTwoSections() {
        TrackKeeper x = Kit.begun(9, 9, 9, Kit.metres(3), Kit.metres(3));
        x.connect(0, 2);
        x.report(0, 4, 1);
        x.detect(1, true);
        Kit.same("only the second section tells of it", Kit.states(x), "FFFOOF");
        x.detect(0, true);
        Kit.same("both do", Kit.states(x), "FFOOOF");
        x.connect(1, 1);
        x.report(1, 1, 1);
        x.tick(1);
        Kit.same("what is before its rear makes all of it ambiguous", Kit.states(x), "OOAAAF");
        x.report(0, 5, 1);
        Kit.same("its rear is the first of the second section", Kit.states(x), "OOUOOO");
    }

    private static void wasUnknown() {
        TrackKeeper x = Kit.begun(9, 9, 100, Kit.metres(4));
        x.detect(0, true);
        x.connect(0, 1);
        x.report(0, 1, 1);
        Kit.same("covered: not unknown any more", Kit.states(x), "OOUU");
        x.tick(3);
        x.detect(0, true);
        Kit.same("not covered: unknown stays", Kit.states(x), "OOUU");
        x.report(0, 2, 1);
        Kit.same("the train goes through what is unknown", Kit.states(x), "FAAU");
        x.tick(1);
        x.report(0, 3, 1);
        Kit.same("and frees it", Kit.states(x), "FFAA");
    }

    private static void wasAmbiguous() {
        TrackKeeper x = Kit.begun(9, 9, 100, Kit.metres(4));
        x.connect(0, 1);
        x.report(0, 1, 0);
        x.detect(0, true);
        Kit.same("before", Kit.states(x), "AAFF");
        x.report(0, 3, 1);
        Kit.same("whole now, but it was ambiguous", Kit.states(x), "UUAA");
    }

    private static void wasOccupiedAndTheRearIsLater() {
        TrackKeeper x = Kit.begun(9, 9, 100, Kit.of(10, 10, 10), Kit.of(10));
        x.connect(0, 5);
        x.report(0, 8, 1);
        x.detect(0, true);
        x.report(0, 14, 1);
        Kit.same("its rear is in the last metre", Kit.states(x), "OOFF");
        x.report(0, 15, 1);
        Kit.same("its rear is in the next one's first metre", Kit.states(x), "FAFF");
        x.tick(1);
        Kit.same("free before", Kit.states(x), "FOFF");
        x.report(0, 40, 1);
        Kit.same("it went far on, out of its section", Kit.states(x), "UFUF");
    }

    private static void wasOccupiedAndTheTrainIsNotWhole() {
        TrackKeeper x = Kit.begun(2, 9, 100, Kit.of(10, 10, 10), Kit.of(10));
        x.connect(0, 5);
        x.report(0, 8, 1);
        x.detect(0, true);
        x.tick(2);
        Kit.same("located, 2 old", Kit.states(x), "OFFF");
        x.tick(1);
        Kit.same("not located, 3 old", Kit.states(x), "UUUF");

        TrackKeeper y = Kit.begun(9, 9, 100, Kit.of(10, 10, 10), Kit.of(10));
        y.connect(0, 5);
        y.connect(1, 5);
        y.report(0, 8, 1);
        y.report(1, 28, 1);
        y.detect(0, true);
        Kit.same("two trains apart", Kit.states(y), "OFOF");
        y.connect(0, 5);
        Kit.same("connected anew; the other one's rear is later", Kit.states(y), "UFOF");
        y.leave(1);
        Kit.same("the other one left", Kit.states(y), "UUUF");
    }

    private static void noTrainInTheSection() {
        TrackKeeper x = Kit.begun(9, 9, 100, Kit.metres(2), Kit.metres(2), Kit.metres(2));
        x.connect(0, 1);
        x.detect(1, true);
        Kit.same("a train without a report", Kit.states(x), "FFUUFF");
        x.detect(1, false);
        x.report(0, 2, 0);
        x.detect(1, true);
        Kit.same("its front is in it", Kit.states(x), "FFAFFF");
        x.detect(1, false);
        x.report(0, 4, 1);
        x.detect(1, true);
        Kit.same("its rear is in it", Kit.states(x), "FFFOFF");
        x.detect(1, false);
        x.report(0, 5, 1);
        x.detect(1, true);
        Kit.same("it is just beyond", Kit.states(x), "FFUUFF");

        TrackKeeper y = Kit.begun(9, 9, 100, Kit.metres(2), Kit.metres(1), Kit.metres(2));
        y.connect(0, 3);
        y.report(0, 4, 1);
        y.detect(1, true);
        Kit.same("neither rear nor front is in it, but it covers it", Kit.states(y), "FFOFF");
    }

    private static void aFrontJustBeforeTheSection() {
        TrackKeeper x = Kit.begun(2, 9, 100, Kit.of(10, 10), Kit.of(10, 10), Kit.of(10));
        x.connect(0, 5);
        x.report(0, 9, 1);
        x.detect(1, true);
        Kit.same("two before the section", Kit.states(x), "FFUUF");
        x.detect(1, false);
        x.report(0, 10, 1);
        x.detect(1, true);
        Kit.same("just before it, the first metre", Kit.states(x), "FFFFF");
        x.report(0, 19, 0);
        Kit.same("just before it, the last metre, nothing confirmed", Kit.states(x), "FFFFF");
        x.detect(2, true);
        Kit.same("not just before the section behind", Kit.states(x), "FFFFU");
        x.tick(2);
        Kit.same("located, 2 old", Kit.states(x), "FFFFU");
        x.tick(1);
        Kit.same("not located, 3 old", Kit.states(x), "FFUUU");

        TrackKeeper y = Kit.begun(9, 9, 100, Kit.of(10), Kit.of(10), Kit.of(10));
        y.connect(0, 5);
        y.report(0, 9, 1);
        y.detect(1, true);
        y.detect(2, true);
        Kit.same("sections of one subsection", Kit.states(y), "FFU");
        y.connect(0, 5);
        Kit.same("connected anew", Kit.states(y), "FUU");
    }

    private static void nothingIsBeforeTheFirstSection() {
        TrackKeeper x = Kit.begun(9, 9, 100, Kit.of(10), Kit.of(10));
        x.connect(0, 5);
        x.report(0, 20, 1);
        x.detect(0, true);
        Kit.same("a train at the end of the track", Kit.states(x), "UF");
        x.detect(1, true);
        Kit.same("in the last section", Kit.states(x), "UO");
    }

    private static void onlyEventsAndTicksFindAnew() {
        TrackKeeper x = Kit.begun(9, 9, 100, Kit.metres(4));
        x.connect(0, 1);
        x.report(0, 1, 1);
        x.detect(0, true);
        x.report(0, 2, 1);
        Kit.same("found once", Kit.states(x), "FAAF");
        x.request(0, 3);
        x.report(0, 1, 1);
        x.train(0, 3);
        x.state(0);
        x.count(6, 0);
        Kit.same("requests, dropped reports and questions find nothing", Kit.states(x), "FAAF");
        Kit.badArgument("nor refused calls", () -> x.detect(1, true));
        Kit.same("found once still", Kit.states(x), "FAAF");
        x.report(0, 2, 0);
        Kit.same("a report at the same place does", Kit.states(x), "FOOF");
    }
}
