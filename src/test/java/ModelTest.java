import java.util.Random;

/**
 * Long runs of calls by fixed seeds: TrackKeeper answers as the literal TrackModel does, also when
 * calls are refused in between, when it begins anew, and when another track is laid.
 */
public final class ModelTest {
    private static final int RUNS = 9000;
    /** Each with a question and now and then a refused one; two tracks and all questions at the end: 512 at most. */
    private static final int CALLS = 85;
    private static final int MOST_SECTIONS = 10;
    private static final int MOST_SUBSECTIONS = 32;

    private final Random random;
    private final int run;
    private final int[] seen;
    private final TrackKeeper keeper = new TrackKeeper();
    private int[][] sections;
    private int longest;
    private TrackModel model;
    private int trains;

    private ModelTest(int run, int[] seen) {
        this.run = run;
        this.seen = seen;
        random = new Random(run);
    }

    public static void main(String[] args) {
        int[] seen = new int[8];
        for (int run = 0; run < RUNS; run++) {
            new ModelTest(run, seen).go();
        }
        String[] names = {"free", "occupied", "ambiguous", "unknown", "shortened", "withdrawn", "spread", "dropped"};
        for (int i = 0; i < seen.length; i++) {
            Kit.same("the runs come upon: " + names[i], seen[i] > 1000, true);
        }
        Kit.end();
    }

    private void lay() {
        boolean full = random.nextInt(8) == 0;
        longest = random.nextInt(8) == 0 ? 100000 : 20;
        trains = full ? 8 : 1 + random.nextInt(4);
        sections = full ? mostSections() : someSections();
        for (int[] section : sections) {
            keeper.section();
            for (int metres : section) {
                keeper.sub(metres);
            }
        }
    }

    private int[][] someSections() {
        int[][] rows = new int[1 + random.nextInt(5)][];
        for (int i = 0; i < rows.length; i++) {
            rows[i] = someLengths(1 + random.nextInt(4));
        }
        return rows;
    }

    private int[][] mostSections() {
        int[][] rows = new int[MOST_SECTIONS][];
        int left = MOST_SUBSECTIONS;
        for (int i = 0; i < MOST_SECTIONS; i++) {
            int others = MOST_SECTIONS - 1 - i;
            rows[i] = someLengths(others == 0 ? left : 1 + random.nextInt(Math.min(5, left - others)));
            left -= rows[i].length;
        }
        return rows;
    }

    private int[] someLengths(int subsections) {
        int[] lengths = new int[subsections];
        for (int i = 0; i < subsections; i++) {
            lengths[i] = 1 + random.nextInt(longest);
        }
        return lengths;
    }

    private void begin() {
        int mute = 1 + random.nextInt(12);
        int keep = 1 + random.nextInt(12);
        int spread = 1 + random.nextInt(8);
        model = new TrackModel(sections, mute, keep, spread);
        Kit.same("run " + run + " begin", keeper.begin(mute, keep, spread), model.length);
    }

    private void go() {
        lay();
        begin();
        int changed = random.nextInt(2 * CALLS);
        for (int call = 0; call < CALLS; call++) {
            if (call == changed) {
                changeTrack();
            }
            if (random.nextInt(4) == 0) {
                refusedCall("run " + run + ", call " + call + " refused");
            }
            String what = oneCall();
            askOne("run " + run + ", call " + call + " " + what);
        }
        askAll("run " + run + ", at its end");
        noteCounts();
    }

    private void changeTrack() {
        noteCounts();
        if (random.nextBoolean()) {
            keeper.clear();
            lay();
        }
        begin();
    }

    private void noteCounts() {
        seen[4] += model.shortened;
        seen[5] += model.withdrawn;
        seen[6] += model.spreadsDue;
    }

    private void refusedCall(String what) {
        int train = random.nextInt(8);
        int beyond = random.nextBoolean() ? -1 - random.nextInt(3) : 8 + random.nextInt(3);
        int noSpan = random.nextBoolean() ? -random.nextInt(3) : 100001 + random.nextInt(3);
        switch (random.nextInt(9)) {
            case 0 -> Kit.badState(what + " section", keeper::section);
            case 1 -> Kit.badState(what + " sub", () -> keeper.sub(1));
            case 2 -> Kit.badArgument(what + " begin", () -> keeper.begin(1, noSpan, 1));
            case 3 -> Kit.badArgument(what + " detect", () -> keeper.detect(sections.length, true));
            case 4 -> Kit.badArgument(what + " connect", () -> keeper.connect(train, noSpan));
            case 5 -> Kit.badArgument(what + " report", () -> keeper.report(train, model.length + 1, 1));
            case 6 -> Kit.badArgument(what + " leave", () -> keeper.leave(beyond));
            case 7 -> Kit.badArgument(what + " tick", () -> keeper.tick(noSpan));
            default -> refusedForTrain(what, train);
        }
    }

    private void refusedForTrain(String what, int train) {
        if (!model.connected[train]) {
            Kit.notNow(what + " report", () -> keeper.report(train, 0, 1));
            Kit.notNow(what + " leave", () -> keeper.leave(train));
        }
    }

    private String oneCall() {
        int train = random.nextInt(trains);
        int kind = random.nextInt(20);
        if (kind < 4) {
            return detect(random.nextInt(sections.length), random.nextInt(3) > 0);
        }
        if (kind < 8) {
            return tick(1 + random.nextInt(4));
        }
        if (!model.connected[train]) {
            int metres = 1 + random.nextInt(Math.min(100000, longest * 3 / 2));
            keeper.connect(train, metres);
            model.connect(train, metres);
            return "connect " + train;
        }
        if (kind == 8 && random.nextInt(3) == 0) {
            return random.nextBoolean() ? leave(train) : connectAnew(train);
        }
        if (kind < 12) {
            return request(train, random.nextInt(model.starts.size()));
        }
        return report(train);
    }

    private String detect(int section, boolean occupied) {
        keeper.detect(section, occupied);
        model.detect(section, occupied);
        return "detect " + section + " " + occupied;
    }

    private String tick(int n) {
        for (int i = 0; i < n; i++) {
            model.tick();
        }
        Kit.same("run " + run + " time", keeper.tick(n), model.time);
        return "tick " + n;
    }

    private String leave(int train) {
        keeper.leave(train);
        model.leave(train);
        return "leave " + train;
    }

    private String connectAnew(int train) {
        keeper.connect(train, 7);
        model.connect(train, 7);
        return "connect anew " + train;
    }

    private String request(int train, int wanted) {
        String what = "request " + train + " " + wanted;
        if (model.located(train)) {
            Kit.same("run " + run + " " + what, keeper.request(train, wanted), model.request(train, wanted));
        } else {
            Kit.notNow("run " + run + " " + what, () -> keeper.request(train, wanted));
        }
        return what;
    }

    private String report(int train) {
        int from = model.reports.get(train).isEmpty() ? random.nextInt(model.length + 1) / 2 : model.latest(train).front();
        int front = Math.max(0, Math.min(model.length, from + random.nextInt(longest * 7 / 10) - longest / 10));
        int integrity = random.nextInt(10) < 6 ? 1 : random.nextInt(3);
        String what = "report " + train + " " + front + " " + integrity;
        boolean taken = model.report(train, front, integrity);
        Kit.same("run " + run + " " + what, keeper.report(train, front, integrity), taken);
        seen[7] += taken ? 0 : 1;
        return what;
    }

    /** One question a call: an object is promised for 512 calls alone. */
    private void askOne(String when) {
        int kind = random.nextInt(3);
        if (kind == 0) {
            askState(when, random.nextInt(model.states.length));
        } else if (kind == 1) {
            askTrain(when, random.nextInt(trains), random.nextInt(6));
        } else {
            askCount(when, random.nextInt(8), random.nextInt(sections.length));
        }
    }

    private void askAll(String when) {
        for (int sub = 0; sub < model.states.length; sub++) {
            askState(when, sub);
        }
        for (int what = 0; what < 48; what++) {
            askTrain(when, what / 6, what % 6);
        }
        for (int what = 0; what < 8 * sections.length; what++) {
            askCount(when, what % 8, what / 8);
        }
    }

    private void askState(String when, int sub) {
        Kit.same(when + ": state " + sub, keeper.state(sub), model.states[sub]);
        seen[model.states[sub]]++;
    }

    private void askTrain(String when, int train, int what) {
        boolean located = model.located(train);
        int due = switch (what) {
            case 0 -> model.connected[train] ? 1 : 0;
            case 1 -> located ? 1 : 0;
            case 2 -> model.whole(train) ? 1 : 0;
            case 3 -> model.ends[train];
            case 4 -> located ? model.rearSub(train) : -1;
            default -> located ? model.frontSub(train) : -1;
        };
        Kit.same(when + ": train " + train + " " + what, keeper.train(train, what), due);
    }

    private void askCount(String when, int what, int section) {
        int due = switch (what) {
            case 0 -> sections.length;
            case 1 -> model.states.length;
            case 2 -> model.time;
            case 3 -> model.shortened;
            case 4 -> model.withdrawn;
            case 5 -> model.spreadsDue;
            case 6 -> model.counted[section];
            default -> model.filled[section] ? 1 : 0;
        };
        Kit.same(when + ": count " + what + " " + section, keeper.count(what, section), due);
    }
}
