/** Pennant ropes: hues that come back at their gaps on ropes of places. */
public final class PennantRopes {
    public static final int NONE = -1;

    private static final int HUES = 8;
    private static final int LEAST_GAP = 2;
    private static final int GREATEST_GAP = 20;
    private static final int MOST_ROPES = 4;
    private static final int MOST_PLACES = 60;
    private static final int MOST_CHARACTERS = 60;
    private static final int LEAST_CODE = 33;
    private static final int GREATEST_CODE = 126;
    private static final int MOST_SAVED = 6;
    private static final int WALK = 800;
    private static final int ROPE_NUMBERS = 6;
    private static final int HUE_NUMBERS = 4;
    private static final int PHASE_NUMBERS = 3;
    private static final int COUNTS = 8;
    private static final long DIGEST_START = 3643L;

    private final State now;
    private final State kept;
    private final History history;
    private final Text text;
    private final Rope draft;
    private boolean hasKept;

    public PennantRopes() {
        now = new State();
        kept = new State();
        history = new History();
        text = new Text();
        draft = new Rope();
        hasKept = false;
    }

    // ---- hues, ropes

    public int gap(int hue, int gap) throws IndexOutOfBoundsException, IllegalArgumentException, IllegalStateException {
        requireHue(hue);
        if (gap < LEAST_GAP || gap > GREATEST_GAP) {
            throw new IllegalArgumentException("the gap is out of range");
        }
        if (now.isLaidOnSome(hue)) {
            throw new IllegalStateException("the hue is laid on some rope");
        }
        history.save(now);
        int previous = now.gapAt(hue);
        now.setGap(hue, gap);
        return previous;
    }

    public int rope(int length) throws IllegalArgumentException, IllegalStateException {
        requireLength(length);
        requireRoomForRope();
        history.save(now);
        now.addRope(length);
        return now.ropeCount() - 1;
    }

    public int drop(int rope) throws IndexOutOfBoundsException {
        existing(rope);
        history.save(now);
        now.removeRope(rope);
        return now.ropeCount();
    }

    public int lay(int rope, int hue, int phase) throws IndexOutOfBoundsException, IllegalArgumentException, IllegalStateException {
        Rope on = existing(rope);
        requireHue(hue);
        requirePhase(hue, phase);
        if (on.reasonAgainst(hue, phase, now.gapAt(hue)) != 0) {
            throw new IllegalStateException("the hue cannot be laid");
        }
        history.save(now);
        return now.layOn(on, hue, phase);
    }

    public int take(int rope, int hue) throws IndexOutOfBoundsException, IllegalStateException {
        Rope off = existing(rope);
        requireHue(hue);
        if (off.orderOf(hue) == NONE) {
            throw new IllegalStateException("the hue is not laid there");
        }
        history.save(now);
        return off.remove(hue);
    }

    // ---- changes of ropes

    public int stretch(int rope, int length) throws IndexOutOfBoundsException, IllegalArgumentException, IllegalStateException {
        Rope changed = existing(rope);
        requireLength(length);
        if (length > greatestLength(changed)) {
            throw new IllegalStateException("two hues would take one place");
        }
        history.save(now);
        int before = changed.hueCount();
        changeLength(changed, length);
        return before - changed.hueCount();
    }

    public int cut(int rope, int place) throws IndexOutOfBoundsException, IllegalArgumentException, IllegalStateException {
        Rope front = existing(rope);
        if (place < 1 || place > front.length() - 1) {
            throw new IllegalArgumentException("the place is out of range");
        }
        requireRoomForRope();
        history.save(now);
        Rope back = now.addRope(front.length() - place);
        if (back != null) {
            layBack(front, place, back);
        }
        changeLength(front, place);
        now.countCut();
        return now.ropeCount() - 1;
    }

    public int turn(int rope) throws IndexOutOfBoundsException {
        Rope turned = existing(rope);
        history.save(now);
        return turnRound(turned);
    }

    public int join(int rope, int other) throws IndexOutOfBoundsException, IllegalStateException {
        Rope front = existing(rope);
        Rope back = existing(other);
        if (rope == other || reasonAgainstJoining(front, back) != 0) {
            throw new IllegalStateException("the ropes cannot be joined");
        }
        history.save(now);
        draftJoined(front, back);
        front.copyFrom(draft);
        now.removeRope(other);
        now.countJoin();
        return front.length();
    }

    // ---- texts

    public int append(int code) throws IllegalArgumentException, IllegalStateException {
        if (code < LEAST_CODE || code > GREATEST_CODE) {
            throw new IllegalArgumentException("the code is not 33 to 126");
        }
        if (text.isFull()) {
            throw new IllegalStateException("the buffer is full");
        }
        text.add(code);
        return text.length();
    }

    public int clearBuffer() {
        int before = text.length();
        text.empty();
        return before;
    }

    public int firstError() {
        return text.firstWrong();
    }

    public int play() throws IllegalArgumentException {
        if (!text.isComplete()) {
            throw new IllegalArgumentException("the buffer is not complete ropes as a text");
        }
        history.save(now);
        int done = 0;
        int from = 0;
        for (int part = 0; part < MOST_CHARACTERS && from < text.length(); part++) {
            int end = text.partEnd(from);
            if (!playPart(from, end)) {
                break;
            }
            done++;
            from = end + 1;
        }
        text.empty();
        return done;
    }

    // ---- undo, the snapshot

    public int undo() throws IllegalStateException {
        if (history.size() == 0) {
            throw new IllegalStateException("there is no saved state");
        }
        history.restoreLatest(now);
        return history.size();
    }

    public int keep() {
        kept.copyFrom(now);
        hasKept = true;
        return now.ropeCount();
    }

    public int restore() throws IllegalStateException {
        if (!hasKept) {
            throw new IllegalStateException("there is no snapshot");
        }
        history.save(now);
        now.copyFrom(kept);
        return now.ropeCount();
    }

    // ---- looks; nothing is changed

    public int place(int rope, int place) throws IndexOutOfBoundsException {
        Rope seen = existing(rope);
        if (place < 0 || place >= seen.length()) {
            throw new IndexOutOfBoundsException("there is no such place");
        }
        return seen.colourAt(place);
    }

    public int ropeOf(int rope, int what) throws IndexOutOfBoundsException, IllegalArgumentException {
        Rope seen = existing(rope);
        requireWhat(what, ROPE_NUMBERS);
        return ropeNumber(seen, what);
    }

    public int hueOf(int rope, int hue, int what) throws IndexOutOfBoundsException, IllegalArgumentException {
        Rope seen = existing(rope);
        requireHue(hue);
        requireWhat(what, HUE_NUMBERS);
        return seen.hueNumber(hue, what);
    }

    public int gapOf(int hue) throws IndexOutOfBoundsException {
        requireHue(hue);
        return now.gapAt(hue);
    }

    public int count(int what) throws IllegalArgumentException {
        requireWhat(what, COUNTS);
        return counted(what);
    }

    public int refusal(int rope, int hue, int phase) throws IndexOutOfBoundsException, IllegalArgumentException {
        Rope seen = existing(rope);
        requireHue(hue);
        requirePhase(hue, phase);
        return seen.reasonAgainst(hue, phase, now.gapAt(hue));
    }

    // ---- what would be; nothing is changed

    public int meeting(int hue, int phase, int other, int otherPhase) throws IndexOutOfBoundsException, IllegalArgumentException {
        requireHue(hue);
        requireHue(other);
        requirePhase(hue, phase);
        requirePhase(other, otherPhase);
        return Numbers.meetByRemainders(now.gapAt(hue), phase, now.gapAt(other), otherPhase);
    }

    public int walked(int hue, int phase, int other, int otherPhase) throws IndexOutOfBoundsException, IllegalArgumentException {
        requireHue(hue);
        requireHue(other);
        requirePhase(hue, phase);
        requirePhase(other, otherPhase);
        return Numbers.meetByWalking(now.gapAt(hue), phase, now.gapAt(other), otherPhase);
    }

    public int phases(int rope, int hue, int what) throws IndexOutOfBoundsException, IllegalArgumentException {
        Rope seen = existing(rope);
        requireHue(hue);
        requireWhat(what, PHASE_NUMBERS);
        return seen.phaseNumber(hue, now.gapAt(hue), what);
    }

    public int bestHue(int rope) throws IndexOutOfBoundsException {
        return fillingHue(existing(rope));
    }

    public int joining(int rope, int other) throws IndexOutOfBoundsException {
        Rope front = existing(rope);
        Rope back = existing(other);
        return rope == other ? 1 : reasonAgainstJoining(front, back);
    }

    public int greatest(int rope) throws IndexOutOfBoundsException {
        return greatestLength(existing(rope));
    }

    public double fullness() {
        int all = now.places();
        int taken = all - now.holes();
        return all > 0 ? (double) taken / all : 1.0;
    }

    public long digest() {
        long hash = DIGEST_START;
        for (int what = 0; what < COUNTS; what++) {
            hash = mixed(hash, counted(what));
        }
        for (int hue = 0; hue < HUES; hue++) {
            hash = mixed(hash, now.gapAt(hue));
        }
        for (int rope = 0; rope < now.ropeCount(); rope++) {
            hash = ropeMixed(hash, rope);
        }
        for (int hue = 0; hue < HUES; hue++) {
            hash = mixed(hash, Numbers.meetByRemainders(now.gapAt(0), 1, now.gapAt(hue), 0));
        }
        hash = mixed(hash, Numbers.bitsOfShare(fullness()));
        hash = mixed(hash, text.length());
        for (int index = 0; index < text.length(); index++) {
            hash = mixed(hash, text.codeAt(index));
        }
        return hash;
    }

    // ---- what must be so ahead of a call

    private Rope existing(int rope) {
        Rope found = now.ropeAt(rope);
        if (found == null) {
            throw new IndexOutOfBoundsException("there is no such rope");
        }
        return found;
    }

    private void requireHue(int hue) {
        if (hue < 0 || hue >= HUES) {
            throw new IndexOutOfBoundsException("there is no such hue");
        }
    }

    private void requirePhase(int hue, int phase) {
        if (phase < 0 || phase >= now.gapAt(hue)) {
            throw new IllegalArgumentException("the phase is out of range");
        }
    }

    private void requireLength(int length) {
        if (length < 1 || length > MOST_PLACES) {
            throw new IllegalArgumentException("the length is out of range");
        }
    }

    private void requireWhat(int what, int numbers) {
        if (what < 0 || what >= numbers) {
            throw new IllegalArgumentException("there is no such number");
        }
    }

    private void requireRoomForRope() {
        if (now.ropeCount() >= MOST_ROPES) {
            throw new IllegalStateException("there are 4 ropes");
        }
    }

    // ---- changes of ropes, when nothing stands against them

    private void changeLength(Rope rope, int length) {
        draft.begin(length);
        for (int order = 0; order < rope.hueCount(); order++) {
            int hue = rope.hueAt(order);
            draft.put(hue, rope.firstFrom(hue, 0), now.gapAt(hue));
        }
        rope.copyFrom(draft);
    }

    private void layBack(Rope front, int place, Rope back) {
        for (int order = 0; order < front.hueCount(); order++) {
            int hue = front.hueAt(order);
            int first = front.firstFrom(hue, place);
            if (first != NONE) {
                back.put(hue, first - place, now.gapAt(hue));
            }
        }
    }

    private int turnRound(Rope rope) {
        draft.begin(rope.length());
        for (int order = 0; order < rope.hueCount(); order++) {
            int hue = rope.hueAt(order);
            draft.put(hue, rope.length() - 1 - rope.lastOf(hue), now.gapAt(hue));
        }
        int changed = rope.differences(draft);
        rope.copyFrom(draft);
        return changed;
    }

    /** Answers whether each hue finds free places on the draft. */
    private boolean draftJoined(Rope front, Rope back) {
        draft.begin(front.length() + back.length());
        boolean free = true;
        for (int order = 0; order < front.hueCount(); order++) {
            int hue = front.hueAt(order);
            free = draftLaid(hue, front.firstFrom(hue, 0)) && free;
        }
        for (int order = 0; order < back.hueCount(); order++) {
            int hue = back.hueAt(order);
            if (front.orderOf(hue) == NONE) {
                int behind = front.length() + back.firstFrom(hue, 0);
                free = draftLaid(hue, Numbers.remainder(behind, now.gapAt(hue))) && free;
            }
        }
        return free;
    }

    private boolean draftLaid(int hue, int phase) {
        int gap = now.gapAt(hue);
        if (draft.reasonAgainst(hue, phase, gap) != 0) {
            return false;
        }
        draft.put(hue, phase, gap);
        return true;
    }

    private boolean playPart(int from, int end) {
        int sign = text.codeAt(from);
        if (sign == 'r') {
            return now.addRope(text.numberIn(from + 1, end)) != null;
        }
        Rope last = now.ropeAt(now.ropeCount() - 1);
        if (last == null) {
            return false;
        }
        if (sign == '<') {
            turnRound(last);
            return true;
        }
        if (sign == '-') {
            return last.remove(text.codeAt(from + 1) - 'a') > 0;
        }
        return playLaying(last, sign - 'a', text.numberIn(from + 1, end));
    }

    private boolean playLaying(Rope last, int hue, int phase) {
        int gap = now.gapAt(hue);
        if (gap <= phase || last.reasonAgainst(hue, phase, gap) != 0) {
            return false;
        }
        now.layOn(last, hue, phase);
        return true;
    }

    // ---- looks at what is and what would be

    /** The reasons behind the first one, which is about the numbers of the ropes. */
    private int reasonAgainstJoining(Rope front, Rope back) {
        if (front.length() + back.length() > MOST_PLACES) {
            return 2;
        }
        for (int order = 0; order < front.hueCount(); order++) {
            int hue = front.hueAt(order);
            int next = front.lastOf(hue) + now.gapAt(hue);
            if (back.orderOf(hue) != NONE && next != front.length() + back.firstFrom(hue, 0)) {
                return 3;
            }
        }
        return draftJoined(front, back) ? 0 : 4;
    }

    /** The hues go on from place to place until two of them come to one place. */
    private int greatestLength(Rope rope) {
        for (int place = rope.length(); place < MOST_PLACES; place++) {
            if (huesDueAt(rope, place) > 1) {
                return place;
            }
        }
        return MOST_PLACES;
    }

    private int huesDueAt(Rope rope, int place) {
        int due = 0;
        for (int order = 0; order < rope.hueCount(); order++) {
            int hue = rope.hueAt(order);
            if (Numbers.remainder(place - rope.firstFrom(hue, 0), now.gapAt(hue)) == 0) {
                due++;
            }
        }
        return due;
    }

    private int fillingHue(Rope rope) {
        int best = NONE;
        int most = 0;
        for (int hue = 0; hue < HUES; hue++) {
            int gap = now.gapAt(hue);
            int phase = rope.fillingPhase(hue, gap);
            int fills = phase == NONE ? 0 : rope.placesFrom(phase, gap);
            if (fills > most) {
                most = fills;
                best = hue;
            }
        }
        return best;
    }

    private int period(Rope rope) {
        int common = 1;
        for (int order = 0; order < rope.hueCount(); order++) {
            common = Numbers.leastCommonMultiple(common, now.gapAt(rope.hueAt(order)));
        }
        return common;
    }

    private int ropeNumber(Rope rope, int what) {
        switch (what) {
            case 0:
                return rope.length();
            case 1:
                return rope.hueCount();
            case 2:
                return rope.placesOf(NONE);
            case 3:
                return rope.firstFrom(NONE, 0);
            case 4:
                return rope.mostHolesSideBySide();
            default:
                return period(rope);
        }
    }

    private int counted(int what) {
        switch (what) {
            case 0:
                return now.ropeCount();
            case 1:
                return now.places();
            case 2:
                return now.holes();
            case 3:
                return now.laidHues();
            case 4:
                return now.layings();
            case 5:
                return now.joins();
            case 6:
                return now.cuts();
            default:
                return history.size();
        }
    }

    // ---- the hash

    private static long mixed(long hash, long value) {
        return 31 * hash + value;
    }

    private long ropeMixed(long before, int number) {
        Rope rope = now.ropeAt(number);
        Rope zero = now.ropeAt(0);
        if (rope == null || zero == null) {
            return before;
        }
        long hash = before;
        for (int what = 0; what < ROPE_NUMBERS; what++) {
            hash = mixed(hash, ropeNumber(rope, what));
        }
        for (int place = 0; place < rope.length(); place++) {
            hash = mixed(hash, rope.colourAt(place));
        }
        for (int hue = 0; hue < HUES; hue++) {
            hash = hueMixed(hash, rope, hue);
        }
        hash = mixed(hash, fillingHue(rope));
        hash = mixed(hash, greatestLength(rope));
        return mixed(hash, number == 0 ? 1 : reasonAgainstJoining(rope, zero));
    }

    private long hueMixed(long before, Rope rope, int hue) {
        long hash = before;
        for (int what = 0; what < HUE_NUMBERS; what++) {
            hash = mixed(hash, rope.hueNumber(hue, what));
        }
        for (int what = 0; what < PHASE_NUMBERS; what++) {
            hash = mixed(hash, rope.phaseNumber(hue, now.gapAt(hue), what));
        }
        return hash;
    }

    /** A rope as the hues of its places, and the order in which they were laid. */
    private static final class Rope {
        private final int[] colours;
        private final int[] orders;
        private int length;
        private int hueCount;

        Rope() {
            colours = new int[MOST_PLACES];
            orders = new int[HUES];
            length = 0;
            hueCount = 0;
        }

        int length() {
            return length;
        }

        int hueCount() {
            return hueCount;
        }

        void begin(int newLength) {
            length = Math.max(0, Math.min(newLength, colours.length));
            hueCount = 0;
            for (int place = 0; place < colours.length; place++) {
                colours[place] = NONE;
            }
        }

        void copyFrom(Rope other) {
            length = other.length;
            hueCount = other.hueCount;
            for (int place = 0; place < colours.length && place < other.colours.length; place++) {
                colours[place] = other.colours[place];
            }
            for (int order = 0; order < orders.length && order < other.orders.length; order++) {
                orders[order] = other.orders[order];
            }
        }

        int colourAt(int place) {
            return place >= 0 && place < length && place < colours.length ? colours[place] : NONE;
        }

        private void setColour(int place, int colour) {
            if (place >= 0 && place < colours.length) {
                colours[place] = colour;
            }
        }

        int hueAt(int order) {
            return order >= 0 && order < hueCount && order < orders.length ? orders[order] : NONE;
        }

        int orderOf(int hue) {
            for (int order = 0; order < hueCount && order < orders.length; order++) {
                if (orders[order] == hue) {
                    return order;
                }
            }
            return NONE;
        }

        /** The first place of a hue from a place on; with NONE as the hue, the first hole. */
        int firstFrom(int hue, int from) {
            for (int place = from; place < length; place++) {
                if (colourAt(place) == hue) {
                    return place;
                }
            }
            return NONE;
        }

        int lastOf(int hue) {
            for (int place = length - 1; place >= 0; place--) {
                if (colourAt(place) == hue) {
                    return place;
                }
            }
            return NONE;
        }

        /** How many places a hue takes; with NONE as the hue, the holes. */
        int placesOf(int hue) {
            int places = 0;
            for (int place = 0; place < length; place++) {
                if (colourAt(place) == hue) {
                    places++;
                }
            }
            return places;
        }

        int placesFrom(int phase, int gap) {
            int places = 0;
            int step = Math.max(1, gap);
            for (int place = phase; place < length; place += step) {
                places++;
            }
            return places;
        }

        int reasonAgainst(int hue, int phase, int gap) {
            if (orderOf(hue) != NONE) {
                return 1;
            }
            if (phase >= length) {
                return 2;
            }
            int step = Math.max(1, gap);
            for (int place = phase; place < length; place += step) {
                if (colourAt(place) != NONE) {
                    return 3;
                }
            }
            return 0;
        }

        /** A hue without a place on the rope is not put into the order. */
        int put(int hue, int phase, int gap) {
            if (phase < 0 || phase >= length || hueCount < 0 || hueCount >= orders.length) {
                return 0;
            }
            orders[hueCount] = hue;
            hueCount++;
            int places = 0;
            int step = Math.max(1, gap);
            for (int place = phase; place < length; place += step) {
                setColour(place, hue);
                places++;
            }
            return places;
        }

        int remove(int hue) {
            int order = orderOf(hue);
            if (order < 0) {
                return 0;
            }
            for (int next = order + 1; next < hueCount && next < orders.length; next++) {
                orders[next - 1] = orders[next];
            }
            hueCount--;
            int places = placesOf(hue);
            for (int place = 0; place < length; place++) {
                if (colourAt(place) == hue) {
                    setColour(place, NONE);
                }
            }
            return places;
        }

        int differences(Rope other) {
            int different = 0;
            for (int place = 0; place < length; place++) {
                if (colourAt(place) != other.colourAt(place)) {
                    different++;
                }
            }
            return different;
        }

        int mostHolesSideBySide() {
            int most = 0;
            int holes = 0;
            for (int place = 0; place < length; place++) {
                holes = colourAt(place) == NONE ? holes + 1 : 0;
                most = Math.max(most, holes);
            }
            return most;
        }

        int hueNumber(int hue, int what) {
            int order = orderOf(hue);
            if (order == NONE) {
                return NONE;
            }
            switch (what) {
                case 0:
                    return firstFrom(hue, 0);
                case 1:
                    return placesOf(hue);
                case 2:
                    return lastOf(hue);
                default:
                    return order;
            }
        }

        int phaseNumber(int hue, int gap, int what) {
            switch (what) {
                case 0:
                    return fittingPhases(hue, gap);
                case 1:
                    return lowestPhase(hue, gap);
                default:
                    return fillingPhase(hue, gap);
            }
        }

        private int fittingPhases(int hue, int gap) {
            int fitting = 0;
            for (int phase = 0; phase < gap; phase++) {
                if (reasonAgainst(hue, phase, gap) == 0) {
                    fitting++;
                }
            }
            return fitting;
        }

        private int lowestPhase(int hue, int gap) {
            for (int phase = 0; phase < gap; phase++) {
                if (reasonAgainst(hue, phase, gap) == 0) {
                    return phase;
                }
            }
            return NONE;
        }

        int fillingPhase(int hue, int gap) {
            int best = NONE;
            int most = 0;
            for (int phase = 0; phase < gap; phase++) {
                int places = placesFrom(phase, gap);
                if (places > most && reasonAgainst(hue, phase, gap) == 0) {
                    most = places;
                    best = phase;
                }
            }
            return best;
        }
    }

    /** All that undo and the snapshot bring back. */
    private static final class State {
        private final int[] gaps;
        private final Rope[] ropes;
        private int ropeCount;
        private int layings;
        private int joins;
        private int cuts;

        State() {
            gaps = new int[HUES];
            for (int hue = 0; hue < gaps.length; hue++) {
                gaps[hue] = LEAST_GAP + hue;
            }
            ropes = new Rope[MOST_ROPES];
            for (int rope = 0; rope < ropes.length; rope++) {
                ropes[rope] = new Rope();
            }
            ropeCount = 0;
            layings = 0;
            joins = 0;
            cuts = 0;
        }

        void copyFrom(State other) {
            for (int hue = 0; hue < gaps.length && hue < other.gaps.length; hue++) {
                gaps[hue] = other.gaps[hue];
            }
            ropeCount = other.ropeCount;
            for (int rope = 0; rope < ropeCount; rope++) {
                Rope mine = ropeAt(rope);
                Rope theirs = other.ropeAt(rope);
                if (mine != null && theirs != null) {
                    mine.copyFrom(theirs);
                }
            }
            layings = other.layings;
            joins = other.joins;
            cuts = other.cuts;
        }

        int gapAt(int hue) {
            return hue >= 0 && hue < gaps.length ? gaps[hue] : 0;
        }

        void setGap(int hue, int gap) {
            if (hue >= 0 && hue < gaps.length) {
                gaps[hue] = gap;
            }
        }

        int ropeCount() {
            return ropeCount;
        }

        /** Null if there is no such rope. */
        Rope ropeAt(int rope) {
            return rope >= 0 && rope < ropeCount && rope < ropes.length ? ropes[rope] : null;
        }

        /** Null if there are as many ropes as there can be. */
        Rope addRope(int length) {
            if (ropeCount < 0 || ropeCount >= ropes.length) {
                return null;
            }
            ropeCount++;
            Rope added = ropeAt(ropeCount - 1);
            if (added != null) {
                added.begin(length);
            }
            return added;
        }

        /** The rope goes behind all others, where it is used again for the next new one. */
        void removeRope(int rope) {
            Rope removed = ropeAt(rope);
            if (removed == null) {
                return;
            }
            for (int next = rope + 1; next < ropeCount && next < ropes.length; next++) {
                ropes[next - 1] = ropes[next];
            }
            ropeCount--;
            if (ropeCount >= 0 && ropeCount < ropes.length) {
                ropes[ropeCount] = removed;
            }
        }

        int layOn(Rope rope, int hue, int phase) {
            layings++;
            return rope.put(hue, phase, gapAt(hue));
        }

        void countJoin() {
            joins++;
        }

        void countCut() {
            cuts++;
        }

        int layings() {
            return layings;
        }

        int joins() {
            return joins;
        }

        int cuts() {
            return cuts;
        }

        int places() {
            int places = 0;
            for (int rope = 0; rope < ropeCount; rope++) {
                Rope one = ropeAt(rope);
                places += one == null ? 0 : one.length();
            }
            return places;
        }

        int holes() {
            int holes = 0;
            for (int rope = 0; rope < ropeCount; rope++) {
                Rope one = ropeAt(rope);
                holes += one == null ? 0 : one.placesOf(NONE);
            }
            return holes;
        }

        int laidHues() {
            int laid = 0;
            for (int hue = 0; hue < HUES; hue++) {
                if (isLaidOnSome(hue)) {
                    laid++;
                }
            }
            return laid;
        }

        boolean isLaidOnSome(int hue) {
            for (int rope = 0; rope < ropeCount; rope++) {
                Rope one = ropeAt(rope);
                if (one != null && one.orderOf(hue) != NONE) {
                    return true;
                }
            }
            return false;
        }
    }

    /** The saved states, the oldest one first; their rows are used again. */
    private static final class History {
        private final State[] states;
        private int size;

        History() {
            states = new State[MOST_SAVED];
            for (int index = 0; index < states.length; index++) {
                states[index] = new State();
            }
            size = 0;
        }

        int size() {
            return size;
        }

        void save(State state) {
            if (size >= states.length) {
                dropOldest();
            }
            State row = rowAt(size);
            if (row != null) {
                row.copyFrom(state);
                size++;
            }
        }

        void restoreLatest(State into) {
            State row = rowAt(size - 1);
            if (row != null) {
                into.copyFrom(row);
                size--;
            }
        }

        private State rowAt(int index) {
            return index >= 0 && index < states.length ? states[index] : null;
        }

        private void dropOldest() {
            State oldest = rowAt(0);
            for (int next = 1; next < states.length; next++) {
                states[next - 1] = states[next];
            }
            size = states.length - 1;
            if (size >= 0 && size < states.length) {
                states[size] = oldest;
            }
        }
    }

    /** The buffer, and the signs that may follow each other in it. */
    private static final class Text {
        private static final int PART = 0;
        private static final int LENGTH = 1;
        private static final int PHASE = 2;
        private static final int TAKEN_HUE = 3;
        private static final int DIGIT_OR_COMMA = 4;
        private static final int ZERO_OR_COMMA = 5;
        private static final int COMMA = 6;
        private static final int WRONG = 7;

        private final int[] codes;
        private int length;

        Text() {
            codes = new int[MOST_CHARACTERS];
            length = 0;
        }

        int length() {
            return length;
        }

        boolean isFull() {
            return length >= codes.length;
        }

        void add(int code) {
            if (length >= 0 && length < codes.length) {
                codes[length] = code;
                length++;
            }
        }

        void empty() {
            length = 0;
        }

        int codeAt(int index) {
            return index >= 0 && index < length && index < codes.length ? codes[index] : NONE;
        }

        int firstWrong() {
            int due = PART;
            for (int index = 0; index < length; index++) {
                due = dueBehind(due, codeAt(index));
                if (due == WRONG) {
                    return index;
                }
            }
            return length;
        }

        boolean isComplete() {
            int due = PART;
            for (int index = 0; index < length; index++) {
                due = dueBehind(due, codeAt(index));
            }
            return due == DIGIT_OR_COMMA || due == ZERO_OR_COMMA || due == COMMA;
        }

        /** The index of the comma behind a part, or the length of the text. */
        int partEnd(int from) {
            for (int index = from; index < length; index++) {
                if (codeAt(index) == ',') {
                    return index;
                }
            }
            return length;
        }

        int numberIn(int from, int end) {
            int number = 0;
            for (int index = from; index < end; index++) {
                number = 10 * number + codeAt(index) - '0';
            }
            return number;
        }

        private static int dueBehind(int due, int code) {
            switch (due) {
                case PART:
                    return dueBehindFirst(code);
                case LENGTH:
                    return dueBehindLengthDigit(code);
                case PHASE:
                    return dueBehindPhaseDigit(code);
                case TAKEN_HUE:
                    return isHue(code) ? COMMA : WRONG;
                case DIGIT_OR_COMMA:
                    return isBetween(code, '0', '9') ? COMMA : dueBehindComma(code);
                case ZERO_OR_COMMA:
                    return code == '0' ? COMMA : dueBehindComma(code);
                case COMMA:
                    return dueBehindComma(code);
                default:
                    return WRONG;
            }
        }

        private static int dueBehindFirst(int code) {
            if (isHue(code)) {
                return PHASE;
            }
            switch (code) {
                case 'r':
                    return LENGTH;
                case '-':
                    return TAKEN_HUE;
                case '<':
                    return COMMA;
                default:
                    return WRONG;
            }
        }

        private static int dueBehindLengthDigit(int code) {
            if (code == '6') {
                return ZERO_OR_COMMA;
            }
            if (isBetween(code, '1', '5')) {
                return DIGIT_OR_COMMA;
            }
            return isBetween(code, '7', '9') ? COMMA : WRONG;
        }

        private static int dueBehindPhaseDigit(int code) {
            if (code == '1') {
                return DIGIT_OR_COMMA;
            }
            return isBetween(code, '0', '9') ? COMMA : WRONG;
        }

        private static int dueBehindComma(int code) {
            return code == ',' ? PART : WRONG;
        }

        private static boolean isHue(int code) {
            return isBetween(code, 'a', 'h');
        }

        private static boolean isBetween(int code, int least, int greatest) {
            return code >= least && code <= greatest;
        }
    }

    /** Sums that need no state. */
    private static final class Numbers {
        /** Euclid's way takes fewer steps than this for any two numbers. */
        private static final int EUCLID_STEPS = 64;
        private static final int SHARE_STEPS = 64;
        private static final int FRACTION_BITS = 52;
        private static final long FRACTION_UNITS = 4503599627370496L;
        private static final long EXPONENT_OF_ONE = 1023L;

        static int remainder(int value, int divisor) {
            return divisor > 0 ? value % divisor : 0;
        }

        static int greatestCommonDivisor(int one, int other) {
            int greater = one;
            int less = other;
            for (int step = 0; step < EUCLID_STEPS && less > 0; step++) {
                int rest = greater % less;
                greater = less;
                less = rest;
            }
            return greater;
        }

        static int leastCommonMultiple(int one, int other) {
            int divisor = greatestCommonDivisor(one, other);
            return divisor > 0 ? one / divisor * other : 0;
        }

        static int meetByRemainders(int gap, int phase, int otherGap, int otherPhase) {
            int divisor = greatestCommonDivisor(gap, otherGap);
            if (remainder(phase - otherPhase, divisor) != 0) {
                return NONE;
            }
            int place = phase;
            for (int step = 0; step < otherGap; step++) {
                if (place >= otherPhase && remainder(place, otherGap) == otherPhase) {
                    return place;
                }
                place += gap;
            }
            return NONE;
        }

        static int meetByWalking(int gap, int phase, int otherGap, int otherPhase) {
            int place = phase;
            int otherPlace = otherPhase;
            for (int step = 0; step < WALK && place < WALK && otherPlace < WALK; step++) {
                if (place == otherPlace) {
                    return place;
                }
                if (place < otherPlace) {
                    place += gap;
                } else {
                    otherPlace += otherGap;
                }
            }
            return NONE;
        }

        /** The bits of a double from 0.0 to 1.0; doubling it until it is 1 or more loses no bit. */
        static long bitsOfShare(double share) {
            double scaled = share;
            long exponent = EXPONENT_OF_ONE;
            for (int step = 0; step < SHARE_STEPS && scaled < 1.0; step++) {
                scaled = scaled * 2.0;
                exponent--;
            }
            if (scaled < 1.0) {
                return 0L;
            }
            long fraction = (long) ((scaled - 1.0) * (double) FRACTION_UNITS);
            return (exponent << FRACTION_BITS) + fraction;
        }
    }
}
