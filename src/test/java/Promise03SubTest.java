/** Promise 3: sub. */
public final class Promise03SubTest {
    public static void main(String[] args) {
        lengths();
        mostOfThem();
        refusals();
        Kit.end();
    }

    private static void lengths() {
        TrackKeeper x = new TrackKeeper();
        x.section();
        Kit.badArgument("length 0", () -> x.sub(0));
        Kit.badArgument("length -1", () -> x.sub(-1));
        Kit.badArgument("length 100001", () -> x.sub(100001));
        Kit.badArgument("least int", () -> x.sub(Integer.MIN_VALUE));
        Kit.same("refused ones are not there", x.count(1, 0), 0);
        Kit.same("length 1", x.sub(1), 0);
        Kit.same("length 100000", x.sub(100000), 1);
        x.section();
        Kit.same("numbers go on in the next section", x.sub(7), 2);
        Kit.same("the lengths add up", x.begin(1, 1, 1), 100008);
    }

    private static void mostOfThem() {
        TrackKeeper x = new TrackKeeper();
        x.section();
        for (int i = 0; i < 32; i++) {
            Kit.same("sub " + i, x.sub(100000), i);
        }
        Kit.tooMany("a 33rd", () -> x.sub(1));
        Kit.badArgument("a 33rd of no length", () -> x.sub(0));
        Kit.same("32 stay", x.count(1, 0), 32);
        Kit.same("the longest track", x.begin(1, 1, 1), 3200000);
        Kit.badState("a 33rd when begun", () -> x.sub(1));
    }

    private static void refusals() {
        TrackKeeper x = new TrackKeeper();
        Kit.badState("no section", () -> x.sub(1));
        Kit.badArgument("a wrong length comes before no section", () -> x.sub(0));
        x.section();
        x.sub(1);
        x.begin(1, 1, 1);
        Kit.badState("begun", () -> x.sub(1));
        Kit.badArgument("a wrong length comes before begun", () -> x.sub(100001));
        Kit.same("subsections behind refusals", x.count(1, 0), 1);
    }
}
