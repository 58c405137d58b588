/** Promise 5: clear. */
public final class Promise05ClearTest {
    public static void main(String[] args) {
        TrackKeeper x = Kit.begun(9, 9, 1, Kit.of(10, 10), Kit.of(10));
        x.connect(0, 5);
        x.detect(0, true);
        x.tick(2);
        x.clear();
        for (int what = 0; what <= 5; what++) {
            Kit.same("count(" + what + ") behind clear", x.count(what, 0), 0);
        }
        Kit.badArgument("no section is left", () -> x.count(7, 0));
        Kit.badState("not begun", () -> x.train(0, 0));
        Kit.badState("no track to begin with", () -> x.begin(1, 1, 1));

        Kit.same("a new section", x.section(), 0);
        Kit.same("its counter, not begun", x.count(6, 0), 0);
        Kit.same("it is told as empty, not begun", x.count(7, 0), 0);
        Kit.same("a new subsection", x.sub(4), 0);
        x.clear();
        x.clear();
        x.section();
        x.sub(6);
        Kit.same("only the new track counts", x.begin(1, 1, 1), 6);
        Kit.same("state", Kit.states(x), "F");
        Kit.same("section is empty", x.count(7, 0), 0);
        Kit.same("train", x.train(0, 0), 0);
        Kit.end();
    }
}
