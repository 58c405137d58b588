import java.lang.reflect.Field;

/**
 * Promise 10, 'IndexOutOfBoundsException: it would be beyond 100000000'. The 512 calls that an object
 * is promised for come to 512000 ticks at most, so that the clock is set on by hand here.
 */
public final class EdgesLastTimeTest {
    public static void main(String[] args) throws ReflectiveOperationException {
        upToTheLastTime();
        beyondTheLastTime();
        otherRefusalsComeFirst();
        theLongestRun();
        Kit.end();
    }

    private static TrackKeeper at(int time) throws ReflectiveOperationException {
        TrackKeeper x = Kit.begun(9, 9, 9, Kit.of(10, 10));
        Field clock = TrackKeeper.class.getDeclaredField("time");
        clock.setAccessible(true);
        clock.setInt(x, time);
        Kit.same("the clock is set", x.count(2, 0), time);
        return x;
    }

    private static void upToTheLastTime() throws ReflectiveOperationException {
        Kit.same("1000 up to the last", at(99999000).tick(1000), 100000000);
        Kit.same("999 up to the last", at(99999001).tick(999), 100000000);
        Kit.same("1 up to the last", at(99999999).tick(1), 100000000);
    }

    private static void beyondTheLastTime() throws ReflectiveOperationException {
        TrackKeeper x = at(99999001);
        x.connect(0, 5);
        x.report(0, 8, 1);
        x.detect(0, true);
        String before = Kit.told(x);
        Kit.tooMany("1000, one beyond", () -> x.tick(1000));
        Kit.same("none of them counts", Kit.told(x), before);
        Kit.same("999", x.tick(999), 100000000);
        Kit.tooMany("1 beyond", () -> x.tick(1));
        Kit.tooMany("1000 beyond", () -> x.tick(1000));
        Kit.same("the last time", x.count(2, 0), 100000000);
        x.begin(9, 9, 9);
        Kit.same("it begins anew", x.tick(1), 1);
    }

    private static void otherRefusalsComeFirst() throws ReflectiveOperationException {
        TrackKeeper x = at(100000000);
        Kit.badArgument("0", () -> x.tick(0));
        Kit.badArgument("1001", () -> x.tick(1001));
        Kit.badArgument("the greatest int", () -> x.tick(Integer.MAX_VALUE));
        x.clear();
        Kit.badState("not begun", () -> x.tick(1));
    }

    /** All the ticks that 512 calls can come to, with a spread due at each of them. */
    private static void theLongestRun() {
        TrackKeeper x = Kit.begun(1, 1, 1, Kit.of(10));
        x.detect(0, true);
        Kit.tickLong(x, 500000);
        Kit.same("time", x.count(2, 0), 500000);
        Kit.same("spreads", x.count(5, 0), 500000);
    }
}
