/**
 * 'A call that throws changes nothing but what is said there': every exception of every promise, in
 * every state an object can be in; behind each row of refused calls the object tells what it told
 * before, and goes on like its twin that was never refused anything.
 */
public final class EdgesRefusedTest {
    private static final int[] NO_TRAINS = {-1, 8, 9, Integer.MIN_VALUE, Integer.MAX_VALUE};
    private static final int[] NO_SPANS = {0, -1, 100001, Integer.MIN_VALUE, Integer.MAX_VALUE};

    public static void main(String[] args) {
        ofANewObject();
        ofABareSection();
        ofATrackThatIsLaid();
        ofAFullTrack();
        ofOneThatIsBegun();
        ofOneThatIsCleared();
        twins();
        Kit.end();
    }

    private static void allButBeginNeedABegunOne(TrackKeeper x) {
        Kit.badState("detect", () -> x.detect(0, true));
        Kit.badState("detect, no such section", () -> x.detect(-1, false));
        Kit.badState("connect", () -> x.connect(0, 1));
        Kit.badState("connect, wrong arguments", () -> x.connect(8, 0));
        Kit.badState("report", () -> x.report(0, 0, 0));
        Kit.badState("report, wrong arguments", () -> x.report(-1, -1, 3));
        Kit.badState("leave", () -> x.leave(0));
        Kit.badState("leave, no such train", () -> x.leave(8));
        Kit.badState("tick", () -> x.tick(1));
        Kit.badState("tick, no ticks", () -> x.tick(0));
        Kit.badState("request", () -> x.request(0, 0));
        Kit.badState("request, wrong arguments", () -> x.request(8, 32));
        Kit.badState("state", () -> x.state(0));
        Kit.badState("state, no such subsection", () -> x.state(-1));
        Kit.badState("train", () -> x.train(0, 0));
        Kit.badState("train, wrong arguments", () -> x.train(8, 6));
    }

    private static void wrongLengthsAndSpans(TrackKeeper x) {
        for (int wrong : NO_SPANS) {
            Kit.badArgument("sub " + wrong, () -> x.sub(wrong));
            Kit.badArgument("mute " + wrong, () -> x.begin(wrong, 1, 1));
            Kit.badArgument("keep " + wrong, () -> x.begin(1, wrong, 1));
            Kit.badArgument("spread " + wrong, () -> x.begin(1, 1, wrong));
        }
    }

    private static void wrongCounts(TrackKeeper x, int sections) {
        for (int wrong : new int[] {-1, 8, Integer.MIN_VALUE, Integer.MAX_VALUE}) {
            Kit.badArgument("count " + wrong, () -> x.count(wrong, 0));
        }
        for (int wrong : new int[] {-1, sections, 10, Integer.MIN_VALUE, Integer.MAX_VALUE}) {
            Kit.badArgument("what section " + wrong + " has counted", () -> x.count(6, wrong));
            Kit.badArgument("whether section " + wrong + " is empty", () -> x.count(7, wrong));
            Kit.same("section " + wrong + " is of no matter here", x.count(0, wrong), sections);
        }
    }

    private static void ofANewObject() {
        TrackKeeper x = new TrackKeeper();
        String before = Kit.told(x);
        allButBeginNeedABegunOne(x);
        wrongLengthsAndSpans(x);
        wrongCounts(x, 0);
        Kit.badState("no section for a subsection", () -> x.sub(1));
        Kit.badState("no section to begin with", () -> x.begin(1, 1, 1));
        Kit.same("a new object stays so", Kit.told(x), before);
        Kit.same("its first section", x.section(), 0);
        Kit.same("its first subsection", x.sub(5), 0);
        Kit.same("its length", x.begin(1, 1, 1), 5);
    }

    private static void ofABareSection() {
        TrackKeeper x = Kit.laid(Kit.of(5));
        x.section();
        String before = Kit.told(x);
        allButBeginNeedABegunOne(x);
        wrongLengthsAndSpans(x);
        wrongCounts(x, 2);
        Kit.badState("a section behind a bare one", x::section);
        Kit.badState("begin with a bare one", () -> x.begin(1, 1, 1));
        Kit.same("a bare section stays so", Kit.told(x), before);
        Kit.same("its subsection", x.sub(6), 1);
        Kit.same("the length", x.begin(1, 1, 1), 11);
    }

    private static void ofATrackThatIsLaid() {
        TrackKeeper x = Kit.laid(Kit.of(5, 6), Kit.of(7));
        String before = Kit.told(x);
        allButBeginNeedABegunOne(x);
        wrongLengthsAndSpans(x);
        wrongCounts(x, 2);
        Kit.same("it stays so", Kit.told(x), before);
        Kit.same("a further section", x.section(), 2);
        Kit.same("its subsection", x.sub(8), 3);
        Kit.same("the length", x.begin(1, 1, 1), 26);
    }

    private static void ofAFullTrack() {
        TrackKeeper x = new TrackKeeper();
        for (int section = 0; section < 10; section++) {
            x.section();
            x.sub(1);
        }
        for (int sub = 10; sub < 32; sub++) {
            x.sub(1);
        }
        String before = Kit.told(x);
        wrongLengthsAndSpans(x);
        wrongCounts(x, 10);
        Kit.tooMany("an eleventh section", x::section);
        Kit.tooMany("a 33rd subsection", () -> x.sub(1));
        Kit.same("it stays so", Kit.told(x), before);
        Kit.same("the length", x.begin(1, 1, 1), 32);
        Kit.badState("an eleventh section, and begun", x::section);
        Kit.badState("a 33rd subsection, and begun", () -> x.sub(1));
        Kit.badArgument("a 33rd subsection of no length, and begun", () -> x.sub(0));
        Kit.same("sections", x.count(0, 0), 10);
        Kit.same("subsections", x.count(1, 0), 32);
    }

    /** Train 0 is whole and has an end, 1 is located, 2 only connected; one section counts for its spread. */
    private static TrackKeeper inUse() {
        TrackKeeper x = Kit.begun(5, 4, 6, Kit.of(10, 10), Kit.of(10), Kit.of(10));
        x.connect(0, 5);
        x.report(0, 8, 1);
        x.detect(0, true);
        x.detect(2, true);
        x.request(0, 2);
        x.tick(1);
        x.connect(1, 5);
        x.report(1, 38, 0);
        x.detect(1, true);
        x.detect(1, false);
        x.leave(1);
        x.connect(1, 5);
        x.report(1, 29, 0);
        x.connect(2, 5);
        x.tick(1);
        return x;
    }

    private static void refusedWhenBegun(TrackKeeper x) {
        Kit.badState("section", x::section);
        Kit.badState("sub", () -> x.sub(1));
        Kit.badArgument("sub of no length", () -> x.sub(0));
        Kit.badArgument("begin anew with a wrong mute", () -> x.begin(0, 1, 1));
        Kit.badArgument("begin anew with a wrong keep", () -> x.begin(1, 100001, 1));
        Kit.badArgument("begin anew with a wrong spread", () -> x.begin(1, 1, -1));
        Kit.badArgument("detect -1", () -> x.detect(-1, false));
        Kit.badArgument("detect 3", () -> x.detect(3, true));
        Kit.badArgument("connect with no length", () -> x.connect(0, 0));
        Kit.badArgument("connect too long", () -> x.connect(0, 100001));
        Kit.badArgument("report before the track", () -> x.report(0, -1, 1));
        Kit.badArgument("report beyond the track", () -> x.report(0, 41, 1));
        Kit.badArgument("report a wrong integrity", () -> x.report(0, 9, 3));
        Kit.badArgument("report a wrong integrity, to be dropped", () -> x.report(0, 0, -1));
        Kit.badArgument("report a wrong front, not connected", () -> x.report(3, 41, 1));
        Kit.badArgument("report a wrong integrity, not connected", () -> x.report(3, 40, 3));
        Kit.notNow("report, not connected", () -> x.report(3, 40, 1));
        Kit.notNow("leave, not connected", () -> x.leave(3));
        Kit.badArgument("tick 0", () -> x.tick(0));
        Kit.badArgument("tick -1", () -> x.tick(-1));
        Kit.badArgument("tick 1001", () -> x.tick(1001));
        Kit.badArgument("request -1", () -> x.request(0, -1));
        Kit.badArgument("request 4", () -> x.request(0, 4));
        Kit.badArgument("request 4, not located", () -> x.request(2, 4));
        Kit.notNow("request, not located", () -> x.request(2, 3));
        Kit.notNow("request, not connected", () -> x.request(3, 3));
        Kit.badArgument("state -1", () -> x.state(-1));
        Kit.badArgument("state 4", () -> x.state(4));
        Kit.badArgument("train's -1", () -> x.train(0, -1));
        Kit.badArgument("train's 6", () -> x.train(0, 6));
    }

    private static void ofOneThatIsBegun() {
        TrackKeeper x = inUse();
        String before = Kit.told(x);
        refusedWhenBegun(x);
        wrongCounts(x, 3);
        for (int wrong : NO_TRAINS) {
            Kit.badArgument("connect " + wrong, () -> x.connect(wrong, 1));
            Kit.badArgument("report " + wrong, () -> x.report(wrong, 0, 0));
            Kit.badArgument("leave " + wrong, () -> x.leave(wrong));
            Kit.badArgument("request " + wrong, () -> x.request(wrong, 0));
            Kit.badArgument("train " + wrong, () -> x.train(wrong, 0));
        }
        Kit.same("it stays so", Kit.told(x), before);
    }

    private static void ofOneThatIsCleared() {
        TrackKeeper x = inUse();
        x.clear();
        String before = Kit.told(x);
        Kit.same("as a new object", before, Kit.told(new TrackKeeper()));
        allButBeginNeedABegunOne(x);
        wrongLengthsAndSpans(x);
        wrongCounts(x, 0);
        Kit.badState("no section for a subsection", () -> x.sub(1));
        Kit.badState("no section to begin with", () -> x.begin(1, 1, 1));
        Kit.same("it stays so", Kit.told(x), before);
    }

    /** What is told at once may hide a change that shows only later: of times, lengths and spans. */
    private static void twins() {
        TrackKeeper refused = inUse();
        TrackKeeper twin = inUse();
        String[] steps = {"tick", "tick", "on", "tick", "tick", "back", "tick", "tick"};
        for (String step : steps) {
            refusedWhenBegun(refused);
            go(refused, step);
            go(twin, step);
            Kit.same("states behind " + step, Kit.states(refused), Kit.states(twin));
        }
        Kit.same("all in the end", Kit.told(refused), Kit.told(twin));
    }

    private static void go(TrackKeeper x, String step) {
        switch (step) {
            case "tick" -> x.tick(1);
            case "on" -> x.report(1, 31, 1);
            default -> x.report(1, 30, 1);
        }
    }
}
