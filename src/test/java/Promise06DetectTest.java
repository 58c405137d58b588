/** Promise 6: detect. */
public final class Promise06DetectTest {
    public static void main(String[] args) {
        tellsOfItsSection();
        isAnEventAlsoWhenToldBefore();
        refusals();
        Kit.end();
    }

    private static void tellsOfItsSection() {
        TrackKeeper x = Kit.begun(9, 9, 9, Kit.of(10, 10), Kit.of(10), Kit.of(10, 10));
        x.detect(1, true);
        Kit.same("only its own subsections", Kit.states(x), "FFUFF");
        Kit.same("section 0 is empty", x.count(7, 0), 0);
        Kit.same("section 1 is not", x.count(7, 1), 1);
        x.detect(2, true);
        Kit.same("the last section", Kit.states(x), "FFUUU");
        x.detect(0, true);
        Kit.same("the first section", Kit.states(x), "UUUUU");
        x.detect(1, false);
        Kit.same("an empty one is free", Kit.states(x), "UUFUU");
        Kit.same("section 1 is empty again", x.count(7, 1), 0);
        x.detect(1, false);
        Kit.same("told twice", Kit.states(x), "UUFUU");
    }

    private static void isAnEventAlsoWhenToldBefore() {
        TrackKeeper x = Kit.begun(9, 9, 9, Kit.of(100, 100));
        x.connect(0, 50);
        x.detect(0, false);
        x.report(0, 90, 1);
        x.detect(0, true);
        x.report(0, 190, 1);
        Kit.same("the one behind was occupied", Kit.states(x), "FA");
        x.detect(0, true);
        Kit.same("the one behind was free", Kit.states(x), "FO");
    }

    private static void refusals() {
        TrackKeeper x = Kit.laid(Kit.of(10), Kit.of(10));
        Kit.badState("not begun", () -> x.detect(0, true));
        Kit.badState("not begun, no such section", () -> x.detect(-1, true));
        x.begin(9, 9, 9);
        Kit.badArgument("section -1", () -> x.detect(-1, true));
        Kit.badArgument("section 2", () -> x.detect(2, true));
        Kit.badArgument("the greatest int", () -> x.detect(Integer.MAX_VALUE, false));
        Kit.same("nothing changed", Kit.states(x), "FF");
    }
}
