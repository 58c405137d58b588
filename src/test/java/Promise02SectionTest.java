/** Promise 2: section. */
public final class Promise02SectionTest {
    public static void main(String[] args) {
        numbersAndTheTenth();
        refusals();
        Kit.end();
    }

    private static void numbersAndTheTenth() {
        TrackKeeper x = new TrackKeeper();
        for (int i = 0; i < 10; i++) {
            Kit.same("section " + i, x.section(), i);
            if (i < 9) {
                x.sub(5);
            }
        }
        Kit.badState("an eleventh while the tenth is bare", x::section);
        x.sub(5);
        Kit.tooMany("an eleventh", x::section);
        Kit.same("the refused one is not there", x.count(0, 0), 10);
        x.begin(1, 1, 1);
        Kit.badState("an eleventh when begun", x::section);
    }

    private static void refusals() {
        TrackKeeper x = new TrackKeeper();
        x.section();
        Kit.badState("behind a bare section", x::section);
        x.sub(1);
        x.begin(1, 1, 1);
        Kit.badState("when begun", x::section);
        Kit.same("sections behind refusals", x.count(0, 0), 1);
        x.clear();
        Kit.same("behind clear", x.section(), 0);
    }
}
