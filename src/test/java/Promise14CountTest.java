/** Promise 14: count. */
public final class Promise14CountTest {
    public static void main(String[] args) {
        notBegun();
        begun();
        Kit.end();
    }

    private static void counts(String when, TrackKeeper x, int... due) {
        for (int what = 0; what <= 5; what++) {
            Kit.same(when + ": " + what, x.count(what, 0), due[what]);
            Kit.same(when + ": k is of no matter for " + what, x.count(what, -77), due[what]);
        }
    }

    private static void wrongArguments(String when, TrackKeeper x, int sections) {
        Kit.badArgument(when + ": what -1", () -> x.count(-1, 0));
        Kit.badArgument(when + ": what 8", () -> x.count(8, 0));
        for (int what = 6; what <= 7; what++) {
            int asked = what;
            Kit.badArgument(when + ": section -1, " + what, () -> x.count(asked, -1));
            Kit.badArgument(when + ": no such section, " + what, () -> x.count(asked, sections));
        }
    }

    private static void notBegun() {
        TrackKeeper x = Kit.laid(Kit.of(10, 10), Kit.of(10));
        counts("not begun", x, 2, 3, 0, 0, 0, 0);
        for (int k = 0; k < 2; k++) {
            Kit.same("not begun: counted of " + k, x.count(6, k), 0);
            Kit.same("not begun: told of " + k, x.count(7, k), 0);
        }
        wrongArguments("not begun", x, 2);
        x.section();
        Kit.same("a bare section counts", x.count(0, 0), 3);
        Kit.same("and tells nothing", x.count(7, 2), 0);
    }

    private static void begun() {
        TrackKeeper x = Kit.begun(6, 9, 3, Kit.of(10, 10), Kit.of(10), Kit.of(10));
        counts("begun", x, 3, 4, 0, 0, 0, 0);
        wrongArguments("begun", x, 3);
        x.connect(0, 5);
        x.report(0, 8, 1);
        x.request(0, 3);
        x.detect(2, true);
        counts("an end was shortened", x, 3, 4, 0, 1, 0, 0);
        x.tick(4);
        counts("a spread was due", x, 3, 4, 4, 1, 0, 1);
        Kit.same("counted since", x.count(6, 2), 1);
        Kit.same("the empty one counts nothing", x.count(6, 1), 0);
        Kit.same("not empty", x.count(7, 2), 1);
        Kit.same("empty", x.count(7, 1), 0);
        x.tick(3);
        counts("an end was withdrawn", x, 3, 4, 7, 1, 1, 2);

        x.clear();
        x.section();
        x.sub(1);
        counts("not begun any more", x, 1, 1, 0, 0, 0, 0);
        Kit.same("its section counts nothing", x.count(6, 0), 0);
        wrongArguments("not begun any more", x, 1);
    }
}
