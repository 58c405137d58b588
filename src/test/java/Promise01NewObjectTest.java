/** Promise 1: a new object is an empty track, not begun. */
public final class Promise01NewObjectTest {
    public static void main(String[] args) {
        TrackKeeper x = new TrackKeeper();
        for (int what = 0; what <= 5; what++) {
            Kit.same("count(" + what + ") of a new object", x.count(what, 0), 0);
        }
        Kit.badArgument("count(6, 0) without a section", () -> x.count(6, 0));
        Kit.badState("state of a new object", () -> x.state(0));
        Kit.badState("begin of a new object", () -> x.begin(1, 1, 1));
        Kit.badState("sub without a section", () -> x.sub(1));

        TrackKeeper other = new TrackKeeper();
        x.section();
        Kit.same("objects do not share their tracks", other.count(0, 0), 0);
        Kit.end();
    }
}
