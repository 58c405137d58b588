/** The edges of Terms 4, AUTHORITIES: what a request reaches, and what takes an END back. */
public final class Edges4AuthoritiesTest {
    public static void main(String[] args) {
        notBeyondTheOneWanted();
        wantedInOrBehindItsOwn();
        onlyALesserEndGrows();
        upToWhatIsNotFree();
        nothingFreeLeavesTheEnd();
        anothersAuthority();
        anothersAuthorityBeginsBehindItsFront();
        trainsBesideEachOther();
        onlyALocatedOneRequests();
        withdrawnWhenMute();
        withdrawnOnlyIfThereIsOne();
        eightAreWithdrawnTrainByTrain();
        shortenedToTheOneBefore();
        shortenedToNone();
        notShortenedBeyondItsEnd();
        theFrontReachesItsEnd();
        notLocatedComesFirst();
        anEndIsNotGivenBackByItself();
        Kit.end();
    }

    /** Train 0 stands in subsection 1 of ten, each a section of its own; no section tells of anything. */
    private static TrackKeeper tenInARow(int mute) {
        TrackKeeper x = Kit.begun(mute, 100000, 100000, Kit.metres(1), Kit.metres(1), Kit.metres(1), Kit.metres(1),
                Kit.metres(1), Kit.metres(1), Kit.metres(1), Kit.metres(1), Kit.metres(1), Kit.metres(1));
        place(x, 0, 1);
        return x;
    }

    private static void place(TrackKeeper x, int train, int sub) {
        x.connect(train, 1);
        x.report(train, sub, 1);
    }

    private static void ends(String when, TrackKeeper x, int end, int shortened, int withdrawn) {
        Kit.same(when + ": end", x.train(0, 3), end);
        Kit.same(when + ": shortened", x.count(3, 0), shortened);
        Kit.same(when + ": withdrawn", x.count(4, 0), withdrawn);
    }

    private static void notBeyondTheOneWanted() {
        for (int wanted = 2; wanted <= 9; wanted++) {
            TrackKeeper x = tenInARow(9);
            Kit.same("wanted " + wanted, x.request(0, wanted), wanted);
            ends("wanted " + wanted, x, wanted, 0, 0);
        }
        TrackKeeper x = tenInARow(9);
        Kit.badArgument("none is 10", () -> x.request(0, 10));
        Kit.badArgument("none is -1", () -> x.request(0, -1));
        ends("refused", x, -1, 0, 0);
    }

    private static void wantedInOrBehindItsOwn() {
        TrackKeeper x = tenInARow(9);
        Kit.same("one it has left", x.request(0, 0), -1);
        Kit.same("its own", x.request(0, 1), -1);
        x.request(0, 5);
        Kit.same("one it has left, with an end", x.request(0, 0), 5);
        Kit.same("its own, with an end", x.request(0, 1), 5);
        x.report(0, 10, 1);
        Kit.same("nothing lies behind the last", x.request(0, 9), -1);
        ends("at the end of the track", x, -1, 0, 0);
    }

    private static void onlyALesserEndGrows() {
        TrackKeeper x = tenInARow(9);
        Kit.same("none: given", x.request(0, 3), 3);
        Kit.same("the same", x.request(0, 3), 3);
        Kit.same("lesser: grows", x.request(0, 4), 4);
        Kit.same("greater: stays", x.request(0, 3), 4);
        Kit.same("the last one", x.request(0, 9), 9);
        Kit.same("stays", x.request(0, 2), 9);
        ends("never counted", x, 9, 0, 0);
    }

    private static void upToWhatIsNotFree() {
        TrackKeeper unknown = tenInARow(9);
        unknown.detect(5, true);
        Kit.same("unknown", unknown.request(0, 9), 4);

        TrackKeeper occupied = tenInARow(9);
        place(occupied, 1, 6);
        occupied.detect(5, true);
        Kit.same("the state", occupied.state(5), TrackKeeper.OCCUPIED);
        Kit.same("occupied", occupied.request(0, 9), 4);

        TrackKeeper ambiguous = tenInARow(9);
        place(ambiguous, 1, 6);
        ambiguous.report(1, 6, 2);
        ambiguous.detect(5, true);
        Kit.same("the state", ambiguous.state(5), TrackKeeper.AMBIGUOUS);
        Kit.same("ambiguous", ambiguous.request(0, 9), 4);

        TrackKeeper free = tenInARow(9);
        place(free, 1, 6);
        Kit.same("covered, but its section is empty", free.request(0, 9), 9);
    }

    private static void nothingFreeLeavesTheEnd() {
        TrackKeeper x = tenInARow(9);
        place(x, 1, 0);
        x.detect(3, true);
        Kit.same("up to it", x.request(0, 9), 2);
        Kit.same("asked again", x.request(0, 9), 2);
        TrackKeeper y = tenInARow(9);
        place(y, 1, 3);
        y.detect(2, true);
        Kit.same("the very next one", y.request(0, 9), -1);
        ends("none as before", y, -1, 0, 0);
    }

    private static void anothersAuthority() {
        TrackKeeper x = tenInARow(9);
        place(x, 7, 4);
        x.request(7, 6);
        Kit.same("up to its beginning", x.request(0, 9), 4);
        place(x, 3, 6);
        Kit.same("in the last one of it: what follows is in none", x.request(3, 9), 9);
        x.report(7, 6, 1);
        Kit.same("it has reached its end: none", x.train(7, 3), -1);
        Kit.same("up to the beginning of the next", x.request(0, 9), 6);
        Kit.same("its own authority does not stop it", x.request(3, 9), 9);
        x.leave(3);
        Kit.same("all", x.request(0, 9), 9);
    }

    private static void anothersAuthorityBeginsBehindItsFront() {
        TrackKeeper x = tenInARow(9);
        place(x, 1, 2);
        x.request(1, 3);
        Kit.same("the other's own subsection is not in it", x.request(0, 9), 2);
        x.report(1, 3, 1);
        Kit.same("nor are those that it left", x.request(0, 9), 9);
    }

    private static void trainsBesideEachOther() {
        TrackKeeper x = tenInARow(9);
        place(x, 1, 1);
        Kit.same("the first that asks", x.request(1, 2), 2);
        Kit.same("the very next is the other's", x.request(0, 9), -1);
        Kit.same("the other goes on", x.request(1, 9), 9);
        x.leave(1);
        Kit.same("the other has left", x.request(0, 9), 9);
        ends("one was withdrawn", x, 9, 0, 1);
    }

    private static void onlyALocatedOneRequests() {
        TrackKeeper x = tenInARow(2);
        Kit.notNow("not connected", () -> x.request(1, 9));
        x.connect(1, 1);
        Kit.notNow("no report", () -> x.request(1, 9));
        x.tick(2);
        Kit.same("2 old", x.request(0, 3), 3);
        x.tick(1);
        Kit.notNow("3 old", () -> x.request(0, 9));
        x.report(0, 1, 0);
        Kit.same("back; its integrity is of no matter", x.request(0, 3), 3);
        x.leave(0);
        Kit.notNow("left", () -> x.request(0, 9));
    }

    private static void withdrawnWhenMute() {
        TrackKeeper x = tenInARow(3);
        x.request(0, 5);
        x.tick(3);
        ends("3 old", x, 5, 0, 0);
        x.tick(1);
        ends("4 old", x, -1, 0, 1);
        x.tick(1);
        ends("5 old", x, -1, 0, 1);
        x.report(0, 1, 1);
        ends("back", x, -1, 0, 1);
        x.request(0, 5);
        x.connect(0, 1);
        ends("connected anew", x, -1, 0, 2);
        x.report(0, 1, 1);
        x.request(0, 5);
        x.leave(0);
        ends("left", x, -1, 0, 3);
    }

    private static void withdrawnOnlyIfThereIsOne() {
        TrackKeeper x = tenInARow(1);
        x.tick(5);
        x.connect(0, 1);
        x.leave(0);
        ends("it never had an end", x, -1, 0, 0);
    }

    private static void eightAreWithdrawnTrainByTrain() {
        TrackKeeper x = Kit.begun(2, 9, 9, Kit.metres(32));
        for (int train = 0; train < 8; train++) {
            place(x, train, 4 * train + 1);
            x.request(train, 4 * train + 3);
        }
        x.tick(2);
        Kit.same("none", x.count(4, 0), 0);
        x.tick(1);
        Kit.same("each", x.count(4, 0), 8);
        x.begin(2, 9, 9);
        Kit.same("counted since begin", x.count(4, 0), 0);
    }

    private static void shortenedToTheOneBefore() {
        TrackKeeper x = tenInARow(9);
        x.request(0, 9);
        x.detect(9, true);
        ends("its end is not free", x, 8, 1, 0);
        x.detect(5, true);
        ends("one amid it", x, 4, 2, 0);
        x.detect(4, true);
        x.detect(3, true);
        ends("two more, one by one", x, 2, 4, 0);
        TrackKeeper y = tenInARow(9);
        y.request(0, 9);
        place(y, 1, 7);
        place(y, 2, 4);
        y.detect(6, true);
        y.detect(3, true);
        ends("the first of two that are not free", y, 2, 2, 0);
    }

    private static void shortenedToNone() {
        TrackKeeper x = tenInARow(9);
        x.request(0, 2);
        place(x, 1, 3);
        x.detect(2, true);
        ends("the very next one is not free", x, -1, 1, 0);
        x.tick(1);
        ends("nothing more is counted", x, -1, 1, 0);
    }

    private static void notShortenedBeyondItsEnd() {
        TrackKeeper x = tenInARow(9);
        x.request(0, 5);
        x.detect(6, true);
        ends("the one behind its end", x, 5, 0, 0);
        x.detect(0, true);
        ends("one that it has left, or stands in", x, 5, 0, 0);
        x.detect(1, true);
        Kit.same("its own is occupied", x.state(1), TrackKeeper.OCCUPIED);
        ends("its own", x, 5, 0, 0);
    }

    private static void theFrontReachesItsEnd() {
        TrackKeeper x = tenInARow(9);
        x.request(0, 4);
        x.report(0, 3, 1);
        ends("one before", x, 4, 0, 0);
        x.report(0, 4, 1);
        ends("in it", x, -1, 0, 0);
        x.request(0, 6);
        x.detect(7, true);
        x.report(0, 9, 1);
        ends("beyond it, what lies between not being free", x, -1, 0, 0);
        TrackKeeper y = tenInARow(9);
        y.request(0, 4);
        y.detect(4, true);
        ends("shortened", y, 3, 1, 0);
        y.report(0, 3, 1);
        ends("then reached", y, -1, 1, 0);
    }

    private static void notLocatedComesFirst() {
        TrackKeeper x = Kit.begun(2, 9, 9, Kit.of(10, 10, 10));
        x.connect(0, 5);
        x.report(0, 8, 1);
        x.detect(0, true);
        x.request(0, 2);
        Kit.same("before", Kit.states(x), "OFF");
        x.tick(3);
        Kit.same("nothing of it is free any more", Kit.states(x), "UUU");
        ends("withdrawn, and not shortened", x, -1, 0, 1);
    }

    private static void anEndIsNotGivenBackByItself() {
        TrackKeeper x = tenInARow(9);
        x.request(0, 9);
        x.detect(5, true);
        x.detect(5, false);
        ends("free again", x, 4, 1, 0);
        Kit.same("asked for", x.request(0, 9), 9);
        ends("given again", x, 9, 1, 0);
    }
}
