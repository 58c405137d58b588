import java.util.ArrayList;
import java.util.Arrays;
import java.util.List;

/**
 * The document's terms once more, as slow and as literal as they stand there: whole histories of
 * reports are kept, and everything is worked out from them each time.
 */
final class TrackModel {
    record Report(int front, int integrity, int time) {
    }

    final List<List<Integer>> layout = new ArrayList<>();
    final List<Integer> starts = new ArrayList<>();
    int length;
    int mute;
    int keep;
    int spread;
    int time;
    int shortened;
    int withdrawn;
    int spreadsDue;
    int[] states;
    List<List<Integer>> covering;
    boolean[] filled;
    int[] counted;
    final int[] lengths = new int[8];
    final boolean[] connected = new boolean[8];
    final int[] ends = new int[8];
    final List<List<Report>> reports = new ArrayList<>();

    TrackModel(int[][] sections, int mute, int keep, int spread) {
        for (int[] section : sections) {
            List<Integer> numbers = new ArrayList<>();
            for (int metres : section) {
                numbers.add(starts.size());
                starts.add(length);
                length += metres;
            }
            layout.add(numbers);
        }
        this.mute = mute;
        this.keep = keep;
        this.spread = spread;
        states = new int[starts.size()];
        filled = new boolean[layout.size()];
        counted = new int[layout.size()];
        Arrays.fill(ends, -1);
        for (int i = 0; i < 8; i++) {
            reports.add(new ArrayList<>());
        }
        covering = coveringNow();
    }

    void detect(int section, boolean occupied) {
        filled[section] = occupied;
        findAnew(new boolean[layout.size()]);
    }

    void connect(int train, int metres) {
        connected[train] = true;
        lengths[train] = metres;
        reports.get(train).clear();
        findAnew(new boolean[layout.size()]);
    }

    boolean report(int train, int front, int integrity) {
        List<Report> before = reports.get(train);
        if (!before.isEmpty() && front < latest(train).front()) {
            return false;
        }
        before.add(new Report(front, integrity, time));
        findAnew(new boolean[layout.size()]);
        return true;
    }

    void leave(int train) {
        connected[train] = false;
        findAnew(new boolean[layout.size()]);
    }

    void tick() {
        time++;
        boolean[] due = new boolean[layout.size()];
        for (int section = 0; section < due.length; section++) {
            if (spreads(section)) {
                counted[section]++;
                if (counted[section] == spread) {
                    due[section] = true;
                    counted[section] = 0;
                    spreadsDue++;
                }
            }
        }
        findAnew(due);
    }

    int request(int train, int wanted) {
        int last = -1;
        for (int sub = frontSub(train) + 1; sub <= wanted; sub++) {
            if (states[sub] != TrackKeeper.FREE || inOthersAuthority(train, sub)) {
                break;
            }
            last = sub;
        }
        if (last != -1 && (ends[train] == -1 || ends[train] < last)) {
            ends[train] = last;
        }
        return ends[train];
    }

    private boolean inOthersAuthority(int train, int sub) {
        for (int other = 0; other < 8; other++) {
            if (other != train && ends[other] != -1 && frontSub(other) < sub && sub <= ends[other]) {
                return true;
            }
        }
        return false;
    }

    Report latest(int train) {
        List<Report> all = reports.get(train);
        return all.get(all.size() - 1);
    }

    boolean located(int train) {
        return connected[train] && !reports.get(train).isEmpty() && time - latest(train).time() <= mute;
    }

    boolean whole(int train) {
        if (!located(train)) {
            return false;
        }
        boolean whole = false;
        for (Report report : reports.get(train)) {
            if (report.integrity() == 1) {
                whole = time - report.time() <= keep;
            } else if (report.integrity() == 2) {
                whole = false;
            }
        }
        return whole;
    }

    int rear(int train) {
        int mark = reports.get(train).get(0).front();
        for (Report report : reports.get(train)) {
            if (report.integrity() == 1) {
                mark = report.front();
            }
        }
        return Math.max(0, mark - lengths[train]);
    }

    int subAt(int place) {
        if (place == length) {
            return starts.size() - 1;
        }
        for (int sub = 0; sub < starts.size(); sub++) {
            int ending = sub + 1 < starts.size() ? starts.get(sub + 1) : length;
            if (starts.get(sub) <= place && place < ending) {
                return sub;
            }
        }
        throw new AssertionError("no such place: " + place);
    }

    int rearSub(int train) {
        return subAt(rear(train));
    }

    int frontSub(int train) {
        return subAt(latest(train).front());
    }

    int sectionOf(int sub) {
        for (int section = 0; section < layout.size(); section++) {
            if (layout.get(section).contains(sub)) {
                return section;
            }
        }
        throw new AssertionError("no such subsection: " + sub);
    }

    private boolean spreads(int section) {
        return filled[section] && layout.get(section).stream().anyMatch(sub -> states[sub] == TrackKeeper.UNKNOWN);
    }

    private List<List<Integer>> coveringNow() {
        List<List<Integer>> all = new ArrayList<>();
        for (int sub = 0; sub < starts.size(); sub++) {
            List<Integer> trains = new ArrayList<>();
            for (int train = 0; train < 8; train++) {
                if (located(train) && rearSub(train) <= sub && sub <= frontSub(train)) {
                    trains.add(train);
                }
            }
            all.add(trains);
        }
        return all;
    }

    private void findAnew(boolean[] due) {
        int[] was = states.clone();
        List<List<Integer>> coveredBefore = covering;
        covering = coveringNow();
        for (int sub = 0; sub < states.length; sub++) {
            states[sub] = found(sub, was, coveredBefore.get(sub), due);
        }
        for (int section = 0; section < counted.length; section++) {
            if (!spreads(section)) {
                counted[section] = 0;
            }
        }
        for (int train = 0; train < 8; train++) {
            if (ends[train] != -1) {
                settle(train);
            }
        }
    }

    private int found(int sub, int[] was, List<Integer> coveredBefore, boolean[] due) {
        int section = sectionOf(sub);
        List<Integer> trains = covering.get(sub);
        if (!filled[section]) {
            return TrackKeeper.FREE;
        }
        if (trains.size() >= 2) {
            return TrackKeeper.AMBIGUOUS;
        }
        if (trains.size() == 1) {
            int first = rearSub(trains.get(0));
            boolean firstOfItsSection = layout.get(sectionOf(first)).get(0) == first;
            boolean alone = firstOfItsSection || was[first - 1] == TrackKeeper.FREE;
            return whole(trains.get(0)) && alone ? TrackKeeper.OCCUPIED : TrackKeeper.AMBIGUOUS;
        }
        if (was[sub] == TrackKeeper.UNKNOWN || was[sub] == TrackKeeper.AMBIGUOUS) {
            return TrackKeeper.UNKNOWN;
        }
        if (was[sub] == TrackKeeper.OCCUPIED) {
            if (coveredBefore.size() != 1) {
                throw new AssertionError("occupied by " + coveredBefore);
            }
            int train = coveredBefore.get(0);
            return whole(train) && rearSub(train) > sub ? TrackKeeper.FREE : TrackKeeper.UNKNOWN;
        }
        return due[section] || !hasTrainInOrBefore(section) ? TrackKeeper.UNKNOWN : TrackKeeper.FREE;
    }

    private boolean hasTrainInOrBefore(int section) {
        int before = layout.get(section).get(0) - 1;
        for (int train = 0; train < 8; train++) {
            if (located(train) && frontSub(train) == before) {
                return true;
            }
        }
        return layout.get(section).stream().anyMatch(sub -> !covering.get(sub).isEmpty());
    }

    private void settle(int train) {
        if (!located(train)) {
            ends[train] = -1;
            withdrawn++;
            return;
        }
        for (int sub = frontSub(train) + 1; sub <= ends[train]; sub++) {
            if (states[sub] != TrackKeeper.FREE) {
                ends[train] = sub - 1;
                shortened++;
                break;
            }
        }
        if (ends[train] <= frontSub(train)) {
            ends[train] = -1;
        }
    }
}
