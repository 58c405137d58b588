/** The edges of Terms 2, TRAINS and REPORTS: a part for each limit and each time that it names. */
public final class Edges2TrainsTest {
    public static void main(String[] args) {
        trainsFrom0To7();
        lengthsFrom1To100000();
        integrityFrom0To2();
        aFrontBelowTheOneBeforeIsDropped();
        theDroppedOneIsNotTheOneBefore();
        nothingOfADroppedReportCounts();
        whenConnectedNoReportWasThere();
        rearIsFrontLessTheLength();
        rearIs0AtLeast();
        rearWithoutAConfirmedOneSoFar();
        rearStaysUntilConfirmed();
        locatedUpToMute();
        theLatestReportCountsForMute();
        theLongestMute();
        wholeUpToKeep();
        theLatestConfirmationCountsForKeep();
        theLongestKeep();
        wholeOnlyIfLocated();
        notLostSince();
        coversFromRearToFront();
        Kit.end();
    }

    private static TrackKeeper metres(int mute, int keep) {
        return Kit.begun(mute, keep, 100000, Kit.metres(32));
    }

    private static void trainsFrom0To7() {
        TrackKeeper x = metres(9, 9);
        for (int wrong : new int[] {-1, 8, Integer.MIN_VALUE, Integer.MAX_VALUE}) {
            Kit.badArgument("connect " + wrong, () -> x.connect(wrong, 1));
            Kit.badArgument("report " + wrong, () -> x.report(wrong, 0, 0));
            Kit.badArgument("leave " + wrong, () -> x.leave(wrong));
            Kit.badArgument("request " + wrong, () -> x.request(wrong, 0));
            Kit.badArgument("train " + wrong, () -> x.train(wrong, 0));
        }
        for (int train = 0; train <= 7; train++) {
            Kit.same("not connected " + train, x.train(train, 0), 0);
            x.connect(train, 1);
            Kit.same("connected " + train, x.train(train, 0), 1);
            x.report(train, 4 * train, 1);
            Kit.same("front of " + train, x.train(train, 5), 4 * train);
            Kit.same("request of " + train, x.request(train, 4 * train + 1), 4 * train + 1);
        }
        x.leave(7);
        Kit.same("7 left", x.train(7, 0), 0);
        Kit.same("6 did not", x.train(6, 0), 1);
        x.leave(0);
        Kit.same("0 left", x.train(0, 0), 0);
        Kit.same("1 did not", x.train(1, 0), 1);
    }

    private static void lengthsFrom1To100000() {
        TrackKeeper x = Kit.begun(9, 9, 9, Kit.of(1, 1, 100000));
        for (int wrong : new int[] {0, -1, 100001, Integer.MIN_VALUE, Integer.MAX_VALUE}) {
            Kit.badArgument("length " + wrong, () -> x.connect(0, wrong));
        }
        Kit.same("none connected", x.train(0, 0), 0);
        x.connect(0, 1);
        x.report(0, 2, 1);
        Kit.same("a metre long", x.train(0, 4), 1);
        x.connect(1, 100000);
        x.report(1, 100002, 1);
        Kit.same("100000 metres long, at the end", x.train(1, 4), 2);
        x.connect(2, 100000);
        x.report(2, 100001, 1);
        Kit.same("100000 metres long, a metre before", x.train(2, 4), 1);
        x.connect(3, 100000);
        x.report(3, 100000, 1);
        Kit.same("100000 metres long, two before", x.train(3, 4), 0);
    }

    private static void integrityFrom0To2() {
        TrackKeeper x = metres(9, 9);
        x.connect(0, 1);
        for (int wrong : new int[] {-1, 3, Integer.MIN_VALUE, Integer.MAX_VALUE}) {
            Kit.badArgument("integrity " + wrong, () -> x.report(0, 5, wrong));
        }
        Kit.same("none counts as a report", x.train(0, 1), 0);
        int[] whole = {0, 1, 0};
        for (int integrity = 0; integrity <= 2; integrity++) {
            Kit.same("integrity " + integrity, x.report(0, 5, integrity), true);
            Kit.same("located by " + integrity, x.train(0, 1), 1);
            Kit.same("whole by " + integrity, x.train(0, 2), whole[integrity]);
        }
    }

    private static void aFrontBelowTheOneBeforeIsDropped() {
        TrackKeeper x = metres(9, 9);
        x.connect(0, 1);
        Kit.same("the first, at 0", x.report(0, 0, 0), true);
        Kit.same("the same place", x.report(0, 0, 0), true);
        Kit.same("a metre on", x.report(0, 1, 0), true);
        Kit.same("a metre back", x.report(0, 0, 0), false);
        Kit.same("to the end", x.report(0, 32, 0), true);
        Kit.same("a metre back in the same subsection", x.report(0, 31, 0), false);
        Kit.same("far back", x.report(0, 0, 1), false);
        Kit.same("the end again", x.report(0, 32, 0), true);
        x.connect(1, 1);
        Kit.same("another train's front is of no matter", x.report(1, 3, 0), true);
    }

    private static void theDroppedOneIsNotTheOneBefore() {
        TrackKeeper x = metres(9, 9);
        x.connect(0, 1);
        x.report(0, 10, 0);
        Kit.same("back", x.report(0, 5, 0), false);
        Kit.same("on from there, but still back", x.report(0, 9, 0), false);
        Kit.same("the front", x.train(0, 5), 10);
        Kit.same("where it was", x.report(0, 10, 0), true);
    }

    private static void nothingOfADroppedReportCounts() {
        TrackKeeper x = Kit.begun(2, 2, 9, Kit.metres(8), Kit.metres(4));
        x.connect(0, 2);
        x.report(0, 4, 1);
        x.detect(0, true);
        x.report(0, 5, 1);
        x.request(0, 7);
        Kit.same("before", Kit.states(x), "FFFAAAFFFFFF");
        String before = Kit.told(x);
        for (int integrity = 0; integrity <= 2; integrity++) {
            Kit.same("dropped " + integrity, x.report(0, 4, integrity), false);
        }
        Kit.same("all is as it was, and nothing found anew", Kit.told(x), before);
        x.tick(2);
        Kit.same("located, 2 old", x.train(0, 1), 1);
        Kit.same("whole, 2 ago", x.train(0, 2), 1);
        x.report(0, 4, 1);
        x.tick(1);
        Kit.same("the dropped one did not tell where it is", x.train(0, 1), 0);
        Kit.same("nor confirm", x.train(0, 2), 0);
        x.report(0, 5, 0);
        Kit.same("located by one that counts", x.train(0, 1), 1);
        Kit.same("not confirmed by it", x.train(0, 2), 0);
    }

    private static void whenConnectedNoReportWasThere() {
        TrackKeeper x = metres(9, 9);
        x.connect(0, 4);
        Kit.same("connected, not located", x.train(0, 1), 0);
        x.report(0, 20, 1);
        x.connect(0, 4);
        Kit.same("anew: not located", x.train(0, 1), 0);
        Kit.same("anew: no rear", x.train(0, 4), -1);
        Kit.same("anew: a lesser front is not dropped", x.report(0, 10, 0), true);
        Kit.same("anew: not confirmed", x.train(0, 2), 0);
        Kit.same("anew: the rear by the new first report", x.train(0, 4), 6);
        x.report(0, 12, 1);
        x.leave(0);
        x.connect(0, 3);
        Kit.same("behind leave: not located", x.train(0, 1), 0);
        Kit.same("behind leave: a lesser front is not dropped", x.report(0, 8, 0), true);
        Kit.same("behind leave: not confirmed", x.train(0, 2), 0);
        Kit.same("behind leave: the rear by the new length", x.train(0, 4), 5);
        x.begin(9, 9, 9);
        x.connect(0, 3);
        Kit.same("behind begin: a lesser front is not dropped", x.report(0, 7, 0), true);
    }

    private static void rearIsFrontLessTheLength() {
        TrackKeeper x = metres(9, 9);
        for (int length = 1; length <= 8; length++) {
            x.connect(length - 1, length);
            x.report(length - 1, 20, 1);
            Kit.same("length " + length, x.train(length - 1, 4), 20 - length);
            Kit.same("front", x.train(length - 1, 5), 20);
        }
        x.connect(0, 1);
        x.report(0, 32, 1);
        Kit.same("at the end of the track", x.train(0, 4), 31);
        x.connect(0, 32);
        x.report(0, 32, 1);
        Kit.same("as long as the track", x.train(0, 4), 0);
    }

    private static void rearIs0AtLeast() {
        TrackKeeper x = metres(9, 9);
        x.connect(0, 5);
        for (int front = 0; front <= 7; front++) {
            x.report(0, front, 1);
            Kit.same("confirmed at " + front, x.train(0, 4), front < 5 ? 0 : front - 5);
        }
        for (int front = 0; front <= 7; front++) {
            x.connect(1, 5);
            x.report(1, front, 0);
            Kit.same("first at " + front, x.train(1, 4), front < 5 ? 0 : front - 5);
        }
        x.connect(2, 100000);
        x.report(2, 0, 1);
        Kit.same("the longest one at the beginning", x.train(2, 4), 0);
    }

    private static void rearWithoutAConfirmedOneSoFar() {
        for (int integrity = 0; integrity <= 2; integrity += 2) {
            TrackKeeper x = metres(9, 9);
            x.connect(0, 3);
            x.report(0, 8, integrity);
            Kit.same("by the first report", x.train(0, 4), 5);
            x.report(0, 20, integrity);
            Kit.same("not by the second", x.train(0, 4), 5);
            x.report(0, 10, 1);
            Kit.same("not by a dropped one", x.train(0, 4), 5);
            x.report(0, 20, 1);
            Kit.same("by the first that is confirmed", x.train(0, 4), 17);
        }
    }

    private static void rearStaysUntilConfirmed() {
        TrackKeeper x = metres(2, 1);
        x.connect(0, 3);
        x.report(0, 8, 1);
        x.report(0, 12, 0);
        Kit.same("nothing told", x.train(0, 4), 5);
        x.report(0, 14, 2);
        Kit.same("lost", x.train(0, 4), 5);
        x.tick(2);
        Kit.same("confirmed too long ago", x.train(0, 4), 5);
        x.tick(1);
        Kit.same("not located: none is told", x.train(0, 4), -1);
        x.report(0, 16, 0);
        Kit.same("located again: the old one", x.train(0, 4), 5);
        x.report(0, 16, 1);
        Kit.same("confirmed", x.train(0, 4), 13);
    }

    private static void locatedUpToMute() {
        for (int mute : new int[] {1, 2, 1000}) {
            TrackKeeper x = metres(mute, 9);
            x.connect(0, 1);
            x.report(0, 5, 0);
            Kit.same("at once", x.train(0, 1), 1);
            x.tick(mute);
            Kit.same(mute + " old", x.train(0, 1), 1);
            Kit.same("its front", x.train(0, 5), 5);
            x.tick(1);
            Kit.same("one more", x.train(0, 1), 0);
            Kit.same("no front", x.train(0, 5), -1);
            Kit.same("connected still", x.train(0, 0), 1);
            x.report(0, 5, 0);
            Kit.same("located again", x.train(0, 1), 1);
        }
    }

    private static void theLatestReportCountsForMute() {
        TrackKeeper x = metres(3, 9);
        x.connect(0, 1);
        x.report(0, 5, 1);
        x.tick(3);
        x.report(0, 5, 2);
        x.tick(3);
        Kit.same("3 behind the second", x.train(0, 1), 1);
        x.report(0, 4, 0);
        x.tick(1);
        Kit.same("4 behind the second; the third was dropped", x.train(0, 1), 0);
    }

    private static void theLongestMute() {
        TrackKeeper x = metres(100000, 1);
        x.connect(0, 1);
        x.report(0, 5, 0);
        Kit.tickLong(x, 100000);
        Kit.same("100000 old", x.train(0, 1), 1);
        x.tick(1);
        Kit.same("100001 old", x.train(0, 1), 0);
    }

    private static void wholeUpToKeep() {
        for (int keep : new int[] {1, 2, 1000}) {
            TrackKeeper x = metres(100000, keep);
            x.connect(0, 1);
            x.report(0, 5, 1);
            Kit.same("at once", x.train(0, 2), 1);
            x.tick(keep);
            Kit.same(keep + " ago", x.train(0, 2), 1);
            x.tick(1);
            Kit.same("one more", x.train(0, 2), 0);
            Kit.same("located still", x.train(0, 1), 1);
            x.report(0, 5, 0);
            Kit.same("a report that tells nothing does not help", x.train(0, 2), 0);
            x.report(0, 5, 1);
            Kit.same("one that confirms does", x.train(0, 2), 1);
        }
    }

    private static void theLatestConfirmationCountsForKeep() {
        TrackKeeper x = metres(100, 3);
        x.connect(0, 1);
        x.report(0, 5, 1);
        x.tick(3);
        x.report(0, 5, 1);
        x.tick(2);
        x.report(0, 5, 0);
        x.tick(1);
        Kit.same("3 behind the second", x.train(0, 2), 1);
        x.tick(1);
        Kit.same("4 behind the second", x.train(0, 2), 0);
    }

    private static void theLongestKeep() {
        TrackKeeper x = metres(100000, 100000);
        x.connect(0, 1);
        x.report(0, 5, 1);
        Kit.tickLong(x, 100000);
        x.report(0, 5, 0);
        Kit.same("100000 ago", x.train(0, 2), 1);
        x.tick(1);
        Kit.same("100001 ago", x.train(0, 2), 0);
        Kit.same("located still", x.train(0, 1), 1);
    }

    private static void wholeOnlyIfLocated() {
        TrackKeeper x = metres(1, 4);
        x.connect(0, 1);
        Kit.same("no report", x.train(0, 2), 0);
        x.report(0, 5, 1);
        x.tick(2);
        Kit.same("confirmed 2 ago, but not located", x.train(0, 2), 0);
        x.tick(2);
        x.report(0, 5, 0);
        Kit.same("located, and confirmed 4 ago", x.train(0, 2), 1);
        x.tick(1);
        Kit.same("located, and confirmed 5 ago", x.train(0, 2), 0);
        x.report(0, 5, 1);
        x.leave(0);
        Kit.same("not connected", x.train(0, 2), 0);
    }

    private static void notLostSince() {
        TrackKeeper x = metres(9, 9);
        x.connect(0, 1);
        x.report(0, 5, 1);
        x.report(0, 5, 2);
        Kit.same("lost at the same tick", x.train(0, 2), 0);
        x.report(0, 5, 0);
        Kit.same("nothing told since", x.train(0, 2), 0);
        x.tick(1);
        Kit.same("a tick later", x.train(0, 2), 0);
        x.report(0, 5, 1);
        Kit.same("confirmed since", x.train(0, 2), 1);
        x.report(0, 4, 2);
        Kit.same("lost in a dropped one", x.train(0, 2), 1);
        x.connect(1, 1);
        x.report(1, 5, 2);
        Kit.same("another one's loss", x.train(0, 2), 1);
        Kit.same("lost at first", x.train(1, 2), 0);
        x.report(1, 5, 1);
        Kit.same("confirmed behind it, at the same tick", x.train(1, 2), 1);
    }

    private static void coversFromRearToFront() {
        TrackKeeper x = Kit.begun(2, 2, 9, Kit.metres(4), Kit.metres(4), Kit.metres(4));
        x.connect(0, 2);
        x.detect(1, true);
        Kit.same("connected: covers nothing", Kit.states(x), "FFFFUUUUFFFF");
        x.report(0, 7, 1);
        Kit.same("three subsections", Kit.states(x), "FFFFUAAAFFFF");
        x.report(0, 8, 1);
        Kit.same("its front is in the next section", Kit.states(x), "FFFFUUAAFFFF");
        x.detect(2, true);
        Kit.same("it covers one there as well", Kit.states(x), "FFFFUUAAAFFF");
        x.tick(2);
        Kit.same("located: covers them", Kit.states(x), "FFFFUUAAAFFF");
        x.tick(1);
        Kit.same("not located: covers nothing", Kit.states(x), "FFFFUUUUUUUU");
    }
}
