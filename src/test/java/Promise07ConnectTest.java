/** Promise 7: connect. */
public final class Promise07ConnectTest {
    public static void main(String[] args) {
        connects();
        anew();
        isAnEvent();
        refusals();
        Kit.end();
    }

    private static void connects() {
        TrackKeeper x = Kit.begun(9, 9, 9, Kit.of(100, 100000));
        for (int train = 0; train < 8; train++) {
            x.connect(train, train % 2 == 0 ? 1 : 100000);
            Kit.same("connected " + train, x.train(train, 0), 1);
            Kit.same("not located " + train, x.train(train, 1), 0);
            Kit.same("not whole " + train, x.train(train, 2), 0);
        }
        x.report(0, 101, 1);
        Kit.same("the rear of one of 1 metre", x.train(0, 4), 1);
        x.report(2, 100, 1);
        Kit.same("a metre less", x.train(2, 4), 0);
        x.report(1, 100100, 1);
        Kit.same("the rear of one of 100000 metres", x.train(1, 4), 1);
        x.report(3, 100099, 1);
        Kit.same("it begins a metre before", x.train(3, 4), 0);
    }

    private static void anew() {
        TrackKeeper x = Kit.begun(9, 9, 9, Kit.of(100, 100, 100, 100));
        x.connect(4, 50);
        x.report(4, 160, 1);
        x.detect(0, true);
        x.request(4, 3);
        Kit.same("before", Kit.states(x), "FOFF");
        x.connect(4, 10);
        Kit.same("no report was there", x.train(4, 1), 0);
        Kit.same("its end is withdrawn", x.train(4, 3), -1);
        Kit.same("and counted", x.count(4, 0), 1);
        Kit.same("nobody knows where it is", Kit.states(x), "UUUU");
        Kit.same("a front further back is its first", x.report(4, 120, 0), true);
        Kit.same("its integrity is not known any more", x.train(4, 2), 0);
        Kit.same("the new length", x.train(4, 4), 1);
        x.report(4, 130, 1);
        Kit.same("confirmed", x.train(4, 2), 1);
        x.report(4, 130, 2);
        x.connect(4, 10);
        x.report(4, 10, 1);
        Kit.same("the loss is forgotten as well", x.train(4, 2), 1);
        Kit.same("without an end nothing more is withdrawn", x.count(4, 0), 1);
    }

    private static void isAnEvent() {
        TrackKeeper x = Kit.begun(9, 9, 9, Kit.of(100, 100));
        x.connect(0, 50);
        x.report(0, 90, 1);
        x.detect(0, true);
        x.report(0, 190, 1);
        Kit.same("before", Kit.states(x), "FA");
        x.connect(1, 50);
        Kit.same("found anew", Kit.states(x), "FO");
    }

    private static void refusals() {
        TrackKeeper x = Kit.laid(Kit.of(10));
        Kit.badState("not begun", () -> x.connect(0, 1));
        Kit.badState("not begun comes first", () -> x.connect(8, 0));
        x.begin(9, 9, 9);
        Kit.badArgument("train -1", () -> x.connect(-1, 1));
        Kit.badArgument("train 8", () -> x.connect(8, 1));
        Kit.badArgument("length 0", () -> x.connect(0, 0));
        Kit.badArgument("length -5", () -> x.connect(0, -5));
        Kit.badArgument("length 100001", () -> x.connect(0, 100001));
        Kit.same("none is connected", x.train(0, 0), 0);
        x.connect(0, 1);
        x.report(0, 5, 1);
        Kit.badArgument("anew with a wrong length", () -> x.connect(0, 0));
        Kit.same("it stays located", x.train(0, 1), 1);
    }
}
