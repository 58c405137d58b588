/**
 * The trackside of a railway with virtual subsections. The words in capitals of the document
 * (SECTION, SUBSECTION, TRAIN, REPORT, LOCATED, WHOLE, COVERS, SPREAD, END) are used here in
 * its sense.
 */
public final class TrackKeeper {
    public static final int FREE = 0, OCCUPIED = 1, AMBIGUOUS = 2, UNKNOWN = 3;

    private static final int MOST_SECTIONS = 10;
    private static final int MOST_SUBSECTIONS = 32;
    private static final int TRAINS = 8;
    private static final int MOST_METRES = 100000;
    private static final int LONGEST_SPAN = 100000;
    private static final int MOST_TICKS_A_CALL = 1000;
    private static final int LAST_TIME = 100000000;
    private static final int CONFIRMED = 1, LOST = 2;
    private static final int NONE = -1;

    private final Track track;
    private final Train[] trains;
    private final Authorities authorities;
    private boolean begun;
    private int mute;
    private int keep;
    private int spread;
    private int time;

    public TrackKeeper() {
        track = new Track();
        authorities = new Authorities();
        trains = new Train[TRAINS];
        for (int i = 0; i < TRAINS; i++) {
            trains[i] = new Train();
        }
    }

    public int section() throws IllegalStateException, IndexOutOfBoundsException {
        if (begun || track.latestIsBare()) {
            throw new IllegalStateException();
        }
        if (track.sectionCount >= MOST_SECTIONS) {
            throw new IndexOutOfBoundsException();
        }
        return track.addSection();
    }

    public int sub(int length) throws IllegalArgumentException, IllegalStateException, IndexOutOfBoundsException {
        if (!isWithin(length, 1, MOST_METRES)) {
            throw new IllegalArgumentException();
        }
        if (begun || track.sectionCount == 0) {
            throw new IllegalStateException();
        }
        if (track.subCount >= MOST_SUBSECTIONS) {
            throw new IndexOutOfBoundsException();
        }
        return track.addSubsection(length);
    }

    public int begin(int mute, int keep, int spread) throws IllegalArgumentException, IllegalStateException {
        if (!isWithin(mute, 1, LONGEST_SPAN) || !isWithin(keep, 1, LONGEST_SPAN) || !isWithin(spread, 1, LONGEST_SPAN)) {
            throw new IllegalArgumentException();
        }
        if (track.sectionCount == 0 || track.latestIsBare()) {
            throw new IllegalStateException();
        }
        this.mute = mute;
        this.keep = keep;
        this.spread = spread;
        time = 0;
        begun = true;
        track.emptyAll();
        authorities.forgetCounts();
        for (int i = 0; i < TRAINS; i++) {
            trains[i].forgetAll();
        }
        return track.length;
    }

    public void clear() {
        track.removeAll();
        begun = false;
    }

    public void detect(int section, boolean occupied) throws IllegalStateException, IllegalArgumentException {
        requireBegun();
        if (!track.hasSection(section)) {
            throw new IllegalArgumentException();
        }
        track.sections[section].filled = occupied;
        findAllAnew();
    }

    public void connect(int train, int length) throws IllegalStateException, IllegalArgumentException {
        requireBegun();
        if (!isTrain(train) || !isWithin(length, 1, MOST_METRES)) {
            throw new IllegalArgumentException();
        }
        trains[train].join(length);
        findAllAnew();
    }

    public boolean report(int train, int front, int integrity) throws IllegalStateException, IllegalArgumentException, UnsupportedOperationException {
        requireBegun();
        if (!isTrain(train) || !isWithin(integrity, 0, LOST) || !isWithin(front, 0, track.length)) {
            throw new IllegalArgumentException();
        }
        requireConnected(train);
        if (trains[train].wasBeyond(front)) {
            return false;
        }
        trains[train].take(front, integrity, time, track);
        findAllAnew();
        return true;
    }

    public void leave(int train) throws IllegalStateException, IllegalArgumentException, UnsupportedOperationException {
        requireBegun();
        if (!isTrain(train)) {
            throw new IllegalArgumentException();
        }
        requireConnected(train);
        trains[train].connected = false;
        findAllAnew();
    }

    public int tick(int n) throws IllegalStateException, IllegalArgumentException, IndexOutOfBoundsException {
        requireBegun();
        if (!isWithin(n, 1, MOST_TICKS_A_CALL)) {
            throw new IllegalArgumentException();
        }
        if (n > LAST_TIME - time) {
            throw new IndexOutOfBoundsException();
        }
        for (int i = 0; i < n; i++) {
            time++;
            track.countForSpreads(spread);
            findAllAnew();
        }
        return time;
    }

    public int request(int train, int sub) throws IllegalStateException, IllegalArgumentException, UnsupportedOperationException {
        requireBegun();
        if (!isTrain(train) || !track.hasSubsection(sub)) {
            throw new IllegalArgumentException();
        }
        if (!trains[train].located) {
            throw new UnsupportedOperationException();
        }
        authorities.extend(train, sub, track, trains);
        return trains[train].end;
    }

    public int state(int sub) throws IllegalStateException, IllegalArgumentException {
        requireBegun();
        if (!track.hasSubsection(sub)) {
            throw new IllegalArgumentException();
        }
        return track.subs[sub].state;
    }

    public int train(int train, int what) throws IllegalStateException, IllegalArgumentException {
        requireBegun();
        if (!isTrain(train) || !isWithin(what, 0, 5)) {
            throw new IllegalArgumentException();
        }
        return trains[train].tell(what);
    }

    public int count(int what, int k) throws IllegalArgumentException {
        if (!isWithin(what, 0, 7) || (what >= 6 && !track.hasSection(k))) {
            throw new IllegalArgumentException();
        }
        if (what == 0) {
            return track.sectionCount;
        }
        if (what == 1) {
            return track.subCount;
        }
        return begun ? countSinceBegin(what, k) : 0;
    }

    private int countSinceBegin(int what, int k) {
        switch (what) {
            case 2:
                return time;
            case 3:
                return authorities.shortened;
            case 4:
                return authorities.withdrawn;
            case 5:
                return track.spreadsDue;
            case 6:
                return track.sections[k].counted;
            default:
                return track.sections[k].filled ? 1 : 0;
        }
    }

    private void requireBegun() throws IllegalStateException {
        if (!begun) {
            throw new IllegalStateException();
        }
    }

    private void requireConnected(int train) throws UnsupportedOperationException {
        if (!trains[train].connected) {
            throw new UnsupportedOperationException();
        }
    }

    private static boolean isTrain(int train) {
        return isWithin(train, 0, TRAINS - 1);
    }

    private static boolean isWithin(int value, int least, int most) {
        return value >= least && value <= most;
    }

    private void findAllAnew() {
        for (int i = 0; i < TRAINS; i++) {
            trains[i].judge(time, mute, keep);
        }
        track.findStates(trains);
        authorities.settle(track, trains);
    }

    /** A SECTION: its SUBSECTIONS are numbered first to last. */
    private static final class Section {
        int first;
        int last;
        boolean filled;
        int counted;
        boolean due;
        boolean reached;
    }

    /** A SUBSECTION: how many TRAINS COVER it, and the latest of them (the only one, if it is one). */
    private static final class Subsection {
        int section;
        int start;
        int state;
        int covers;
        int coverer;
    }

    /** THE TRACK, and the STATES of its SUBSECTIONS. */
    private static final class Track {
        final Section[] sections = new Section[MOST_SECTIONS];
        final Subsection[] subs = new Subsection[MOST_SUBSECTIONS];
        int sectionCount;
        int subCount;
        int length;
        int spreadsDue;

        Track() {
            for (int i = 0; i < MOST_SECTIONS; i++) {
                sections[i] = new Section();
            }
            for (int i = 0; i < MOST_SUBSECTIONS; i++) {
                subs[i] = new Subsection();
            }
        }

        void removeAll() {
            sectionCount = 0;
            subCount = 0;
            length = 0;
        }

        boolean latestIsBare() {
            return sectionCount > 0 && sections[sectionCount - 1].last < sections[sectionCount - 1].first;
        }

        boolean hasSection(int section) {
            return isWithin(section, 0, sectionCount - 1);
        }

        boolean hasSubsection(int sub) {
            return isWithin(sub, 0, subCount - 1);
        }

        int addSection() {
            sections[sectionCount].first = subCount;
            sections[sectionCount].last = subCount - 1;
            sectionCount++;
            return sectionCount - 1;
        }

        int addSubsection(int metres) {
            subs[subCount].section = sectionCount - 1;
            subs[subCount].start = length;
            sections[sectionCount - 1].last = subCount;
            length += metres;
            subCount++;
            return subCount - 1;
        }

        void emptyAll() {
            for (int i = 0; i < sectionCount; i++) {
                sections[i].filled = false;
                sections[i].counted = 0;
            }
            for (int i = 0; i < subCount; i++) {
                subs[i].state = FREE;
            }
            spreadsDue = 0;
        }

        /** Looks from the far end, so that the end of THE TRACK falls to the last one. */
        int subsectionAt(int place) {
            int sub = subCount - 1;
            while (sub > 0 && subs[sub].start > place) {
                sub--;
            }
            return sub;
        }

        void countForSpreads(int spread) {
            for (int i = 0; i < sectionCount; i++) {
                if (isUnsure(sections[i])) {
                    countForSpread(sections[i], spread);
                }
            }
        }

        private void countForSpread(Section section, int spread) {
            section.counted++;
            if (section.counted >= spread) {
                section.counted = 0;
                section.due = true;
                spreadsDue++;
            }
        }

        private boolean isUnsure(Section section) {
            if (!section.filled) {
                return false;
            }
            for (int i = section.first; i <= section.last; i++) {
                if (subs[i].state == UNKNOWN) {
                    return true;
                }
            }
            return false;
        }

        void findStates(Train[] trains) {
            // A TRAIN's standing looks at the STATES as they were, so it comes before any is changed.
            markTrains(trains);
            for (int i = 0; i < subCount; i++) {
                subs[i].state = newState(subs[i], i, trains);
            }
            for (int i = 0; i < sectionCount; i++) {
                sections[i].due = false;
                if (!isUnsure(sections[i])) {
                    sections[i].counted = 0;
                }
            }
        }

        private void markTrains(Train[] trains) {
            for (int i = 0; i < subCount; i++) {
                subs[i].covers = 0;
            }
            for (int i = 0; i < sectionCount; i++) {
                sections[i].reached = false;
            }
            for (int i = 0; i < trains.length; i++) {
                if (trains[i].located) {
                    markTrain(trains[i], i);
                }
            }
        }

        private void markTrain(Train train, int number) {
            train.occupies = train.whole && nothingCanFollow(train.rearSub);
            for (int i = train.rearSub; i <= train.frontSub; i++) {
                subs[i].covers++;
                subs[i].coverer = number;
                sections[subs[i].section].reached = true;
            }
            // A TRAIN just before a SECTION may be what that SECTION has begun to tell of.
            if (train.frontSub + 1 < subCount) {
                sections[subs[train.frontSub + 1].section].reached = true;
            }
        }

        private boolean nothingCanFollow(int rearSub) {
            return sections[subs[rearSub].section].first == rearSub || subs[rearSub - 1].state == FREE;
        }

        private int newState(Subsection sub, int number, Train[] trains) {
            Section section = sections[sub.section];
            if (!section.filled) {
                return FREE;
            }
            if (sub.covers > 1) {
                return AMBIGUOUS;
            }
            if (sub.covers == 1) {
                return trains[sub.coverer].occupies ? OCCUPIED : AMBIGUOUS;
            }
            if (sub.state == OCCUPIED) {
                // None COVERED it since, so that its coverer is still the one that did before.
                return trains[sub.coverer].hasLeft(number) ? FREE : UNKNOWN;
            }
            if (sub.state != FREE) {
                return UNKNOWN;
            }
            return section.due || !section.reached ? UNKNOWN : FREE;
        }
    }

    /** What is known of a TRAIN; of its FRONT and REAR behind a REPORT only the SUBSECTIONS matter. */
    private static final class Train {
        boolean connected;
        int length;
        boolean reported;
        int reportTime;
        int front;
        int frontSub;
        int rearSub;
        boolean confirmed;
        int confirmTime;
        boolean located;
        boolean whole;
        boolean occupies;
        int end;

        void forgetAll() {
            connected = false;
            located = false;
            whole = false;
            end = NONE;
        }

        /** The END stays: it is WITHDRAWN, and counted, when all is found anew. */
        void join(int metres) {
            connected = true;
            length = metres;
            reported = false;
            confirmed = false;
        }

        boolean wasBeyond(int place) {
            return reported && place < front;
        }

        void take(int place, int integrity, int time, Track track) {
            if (!reported || integrity == CONFIRMED) {
                rearSub = track.subsectionAt(Math.max(0, place - length));
            }
            front = place;
            frontSub = track.subsectionAt(place);
            reported = true;
            reportTime = time;
            if (integrity == CONFIRMED) {
                confirmed = true;
                confirmTime = time;
            }
            if (integrity == LOST) {
                confirmed = false;
            }
        }

        void judge(int time, int mute, int keep) {
            located = connected && reported && time - reportTime <= mute;
            whole = located && confirmed && time - confirmTime <= keep;
        }

        boolean hasLeft(int sub) {
            return whole && rearSub > sub;
        }

        boolean holds(int sub) {
            return end != NONE && sub > frontSub && sub <= end;
        }

        int tell(int what) {
            switch (what) {
                case 0:
                    return connected ? 1 : 0;
                case 1:
                    return located ? 1 : 0;
                case 2:
                    return whole ? 1 : 0;
                case 3:
                    return end;
                case 4:
                    return located ? rearSub : NONE;
                default:
                    return located ? frontSub : NONE;
            }
        }
    }

    /** Gives the TRAINS their ENDS and takes them back. */
    private static final class Authorities {
        int shortened;
        int withdrawn;

        void forgetCounts() {
            shortened = 0;
            withdrawn = 0;
        }

        void extend(int number, int wanted, Track track, Train[] trains) {
            Train train = trains[number];
            int reach = train.frontSub;
            while (reach < wanted && track.subs[reach + 1].state == FREE && !isHeldByOther(number, reach + 1, trains)) {
                reach++;
            }
            if (reach > train.frontSub && reach > train.end) {
                train.end = reach;
            }
        }

        private boolean isHeldByOther(int number, int sub, Train[] trains) {
            for (int i = 0; i < trains.length; i++) {
                if (i != number && trains[i].holds(sub)) {
                    return true;
                }
            }
            return false;
        }

        void settle(Track track, Train[] trains) {
            for (int i = 0; i < trains.length; i++) {
                if (trains[i].end != NONE) {
                    settleOne(trains[i], track);
                }
            }
        }

        private void settleOne(Train train, Track track) {
            if (!train.located) {
                train.end = NONE;
                withdrawn++;
                return;
            }
            int reach = train.frontSub;
            while (reach < train.end && track.subs[reach + 1].state == FREE) {
                reach++;
            }
            if (reach < train.end) {
                train.end = reach;
                shortened++;
            }
            if (train.end <= train.frontSub) {
                train.end = NONE;
            }
        }
    }
}
