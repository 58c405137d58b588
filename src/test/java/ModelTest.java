import java.util.Random;

/** Long runs of calls by fixed seeds: TrackKeeper answers as the literal TrackModel does. */
public final class ModelTest {
    private static final int RUNS = 6000;
    private static final int CALLS = 150;

    private final Random random;
    private final int run;
    private final int[][] sections;
    private final TrackKeeper keeper;
    private final TrackModel model;
    private final int trains;
    private final int[] seen;

    private ModelTest(int run, int[] seen) {
        this.run = run;
        this.seen = seen;
        random = new Random(run);
        sections = someSections();
        trains = 1 + random.nextInt(4);
        keeper = Kit.laid(sections);
        int mute = 1 + random.nextInt(12);
        int keep = 1 + random.nextInt(12);
        int spread = 1 + random.nextInt(8);
        keeper.begin(mute, keep, spread);
        model = new TrackModel(sections, mute, keep, spread);
    }

    public static void main(String[] args) {
        int[] seen = new int[8];
        for (int run = 0; run < RUNS; run++) {
            new ModelTest(run, seen).go();
        }
        String[] names = {"free", "occupied", "ambiguous", "unknown", "shortened", "withdrawn", "spread", "dropped"};
        for (int i = 0; i < seen.length; i++) {
            Kit.same("the runs come upon: " + names[i], seen[i] > 1000, true);
        }
        Kit.end();
    }

    private int[][] someSections() {
        int[][] rows = new int[1 + random.nextInt(5)][];
        for (int i = 0; i < rows.length; i++) {
            rows[i] = new int[1 + random.nextInt(4)];
            for (int j = 0; j < rows[i].length; j++) {
                rows[i][j] = 1 + random.nextInt(20);
            }
        }
        return rows;
    }

    private void go() {
        for (int call = 0; call < CALLS; call++) {
            String what = oneCall();
            askOne("run " + run + ", call " + call + " " + what);
        }
        askAll("run " + run + ", at its end");
        seen[4] += model.shortened;
        seen[5] += model.withdrawn;
        seen[6] += model.spreadsDue;
    }

    private String oneCall() {
        int train = random.nextInt(trains);
        int kind = random.nextInt(20);
        if (kind < 4) {
            return detect(random.nextInt(sections.length), random.nextInt(3) > 0);
        }
        if (kind < 8) {
            return tick(1 + random.nextInt(4));
        }
        if (!model.connected[train]) {
            int metres = 1 + random.nextInt(30);
            keeper.connect(train, metres);
            model.connect(train, metres);
            return "connect " + train;
        }
        if (kind == 8 && random.nextInt(3) == 0) {
            return random.nextBoolean() ? leave(train) : connectAnew(train);
        }
        if (kind < 12) {
            return request(train, random.nextInt(model.starts.size()));
        }
        return report(train);
    }

    private String detect(int section, boolean occupied) {
        keeper.detect(section, occupied);
        model.detect(section, occupied);
        return "detect " + section + " " + occupied;
    }

    private String tick(int n) {
        for (int i = 0; i < n; i++) {
            model.tick();
        }
        Kit.same("run " + run + " time", keeper.tick(n), model.time);
        return "tick " + n;
    }

    private String leave(int train) {
        keeper.leave(train);
        model.leave(train);
        return "leave " + train;
    }

    private String connectAnew(int train) {
        keeper.connect(train, 7);
        model.connect(train, 7);
        return "connect anew " + train;
    }

    private String request(int train, int wanted) {
        String what = "request " + train + " " + wanted;
        if (model.located(train)) {
            Kit.same("run " + run + " " + what, keeper.request(train, wanted), model.request(train, wanted));
        } else {
            Kit.notNow("run " + run + " " + what, () -> keeper.request(train, wanted));
        }
        return what;
    }

    private String report(int train) {
        int from = model.reports.get(train).isEmpty() ? random.nextInt(30) : model.latest(train).front();
        int front = Math.max(0, Math.min(model.length, from + random.nextInt(14) - 2));
        int integrity = random.nextInt(10) < 6 ? 1 : random.nextInt(3);
        String what = "report " + train + " " + front + " " + integrity;
        boolean taken = model.report(train, front, integrity);
        Kit.same("run " + run + " " + what, keeper.report(train, front, integrity), taken);
        seen[7] += taken ? 0 : 1;
        return what;
    }

    /** One question a call: an object is promised for 512 calls alone. */
    private void askOne(String when) {
        int kind = random.nextInt(3);
        if (kind == 0) {
            askState(when, random.nextInt(model.states.length));
        } else if (kind == 1) {
            askTrain(when, random.nextInt(trains), random.nextInt(6));
        } else {
            askCount(when, random.nextInt(8), random.nextInt(sections.length));
        }
    }

    private void askAll(String when) {
        for (int sub = 0; sub < model.states.length; sub++) {
            askState(when, sub);
        }
        for (int what = 0; what < 48; what++) {
            askTrain(when, what / 6, what % 6);
        }
        for (int what = 0; what < 8 * sections.length; what++) {
            askCount(when, what % 8, what / 8);
        }
    }

    private void askState(String when, int sub) {
        Kit.same(when + ": state " + sub, keeper.state(sub), model.states[sub]);
        seen[model.states[sub]]++;
    }

    private void askTrain(String when, int train, int what) {
        boolean located = model.located(train);
        int due = switch (what) {
            case 0 -> model.connected[train] ? 1 : 0;
            case 1 -> located ? 1 : 0;
            case 2 -> model.whole(train) ? 1 : 0;
            case 3 -> model.ends[train];
            case 4 -> located ? model.rearSub(train) : -1;
            default -> located ? model.frontSub(train) : -1;
        };
        Kit.same(when + ": train " + train + " " + what, keeper.train(train, what), due);
    }

    private void askCount(String when, int what, int section) {
        int due = switch (what) {
            case 0 -> sections.length;
            case 1 -> model.states.length;
            case 2 -> model.time;
            case 3 -> model.shortened;
            case 4 -> model.withdrawn;
            case 5 -> model.spreadsDue;
            case 6 -> model.counted[section];
            default -> model.filled[section] ? 1 : 0;
        };
        Kit.same(when + ": count " + what + " " + section, keeper.count(what, section), due);
    }
}
