import java.util.Arrays;
import java.util.Objects;

/** What every test uses: tracks ready to run, answers looked at, wrong ones counted. */
final class Kit {
    interface Call {
        void run();
    }

    private static int wrong = 0;

    private Kit() {
    }

    /** A track that is not begun: one row of lengths a section. */
    static TrackKeeper laid(int[]... sections) {
        TrackKeeper x = new TrackKeeper();
        for (int[] section : sections) {
            x.section();
            for (int length : section) {
                x.sub(length);
            }
        }
        return x;
    }

    static TrackKeeper begun(int mute, int keep, int spread, int[]... sections) {
        TrackKeeper x = laid(sections);
        x.begin(mute, keep, spread);
        return x;
    }

    static int[] of(int... lengths) {
        return lengths;
    }

    /** A section of subsections of one metre each, so that subsections tell places to the metre. */
    static int[] metres(int subsections) {
        int[] lengths = new int[subsections];
        Arrays.fill(lengths, 1);
        return lengths;
    }

    /** More ticks than one call may count. */
    static void tickLong(TrackKeeper x, int ticks) {
        for (int left = ticks; left > 0; left -= 1000) {
            x.tick(Math.min(left, 1000));
        }
    }

    /** The states of all subsections, a letter each: F, O, A, U. */
    static String states(TrackKeeper x) {
        StringBuilder letters = new StringBuilder();
        for (int sub = 0; sub < x.count(1, 0); sub++) {
            letters.append("FOAU".charAt(x.state(sub)));
        }
        return letters.toString();
    }

    /** All that an object tells of itself, begun or not: two such texts show whether anything changed. */
    static String told(TrackKeeper x) {
        StringBuilder text = new StringBuilder("counts");
        for (int what = 0; what <= 5; what++) {
            text.append(' ').append(x.count(what, 0));
        }
        for (int k = 0; k < x.count(0, 0); k++) {
            text.append(" section ").append(x.count(6, k)).append(' ').append(x.count(7, k));
        }
        return text.append(isBegun(x) ? toldOfStates(x) : " not begun").toString();
    }

    private static boolean isBegun(TrackKeeper x) {
        try {
            x.train(0, 0);
            return true;
        } catch (IllegalStateException e) {
            return false;
        }
    }

    private static String toldOfStates(TrackKeeper x) {
        StringBuilder text = new StringBuilder(" ").append(states(x));
        for (int asked = 0; asked < 48; asked++) {
            text.append(asked % 6 == 0 ? " train " : " ").append(x.train(asked / 6, asked % 6));
        }
        return text.toString();
    }

    static void same(String what, Object got, Object due) {
        if (!Objects.equals(got, due)) {
            wrong++;
            System.out.println(what + ": got " + got + ", due is " + due);
        }
    }

    static void refused(String what, Class<? extends RuntimeException> due, Call call) {
        Object got = "nothing";
        try {
            call.run();
        } catch (RuntimeException e) {
            got = e.getClass();
        }
        same(what + " throws", got, due);
    }

    static void badState(String what, Call call) {
        refused(what, IllegalStateException.class, call);
    }

    static void badArgument(String what, Call call) {
        refused(what, IllegalArgumentException.class, call);
    }

    static void tooMany(String what, Call call) {
        refused(what, IndexOutOfBoundsException.class, call);
    }

    static void notNow(String what, Call call) {
        refused(what, UnsupportedOperationException.class, call);
    }

    static void end() {
        if (wrong != 0) {
            System.out.println(wrong + " wrong");
            System.exit(1);
        }
    }
}
