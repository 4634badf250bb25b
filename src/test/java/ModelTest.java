import java.util.ArrayDeque;
import java.util.ArrayList;
import java.util.LinkedHashMap;
import java.util.List;
import java.util.Map;
import java.util.regex.Matcher;
import java.util.regex.Pattern;

/**
 * Promises 1 to 31 together: long runs of mixed calls beside a plain model of the document, in which a
 * rope is a length and a phase for each hue, and each question is answered by trying all that can be.
 */
final class ModelTest {
    private static final int RUNS = 500;
    private static final int CALLS = 500;
    private static final Pattern TEXT;

    static {
        String part = "(r([1-9]|[1-5][0-9]|60)|[a-h]([0-9]|1[0-9])|-[a-h]|<)";
        TEXT = Pattern.compile(part + "(," + part + ")*");
    }

    private ModelTest() {
    }

    public static void main(String[] args) {
        for (int run = 1; run <= RUNS; run++) {
            new Run(run).go();
        }
        Check.end();
    }

    /** What a call of the model throws. */
    private static final class Wrong extends RuntimeException {
        private static final long serialVersionUID = 1L;
        private final Class<? extends RuntimeException> due;

        Wrong(Class<? extends RuntimeException> due) {
            super(due.getName());
            this.due = due;
        }
    }

    private static void index(boolean right) {
        if (!right) {
            throw new Wrong(Check.INDEX);
        }
    }

    private static void argument(boolean right) {
        if (!right) {
            throw new Wrong(Check.ARGUMENT);
        }
    }

    private static void state(boolean right) {
        if (!right) {
            throw new Wrong(Check.STATE);
        }
    }

    private static boolean in(int value, int least, int greatest) {
        return value >= least && value <= greatest;
    }

    private static final class Rope {
        private int length;
        private final Map<Integer, Integer> phases = new LinkedHashMap<>();

        Rope(int length) {
            this.length = length;
        }

        Rope copy() {
            Rope copy = new Rope(length);
            copy.phases.putAll(phases);
            return copy;
        }
    }

    private static final class All {
        private final int[] gaps = {2, 3, 4, 5, 6, 7, 8, 9};
        private final List<Rope> ropes = new ArrayList<>();
        private int layings;
        private int joins;
        private int cuts;

        All copy() {
            All copy = new All();
            System.arraycopy(gaps, 0, copy.gaps, 0, 8);
            for (Rope rope : ropes) {
                copy.ropes.add(rope.copy());
            }
            copy.layings = layings;
            copy.joins = joins;
            copy.cuts = cuts;
            return copy;
        }
    }

    private static final class Model {
        private All all = new All();
        private All kept;
        private final ArrayDeque<All> saved = new ArrayDeque<>();
        private final StringBuilder buffer = new StringBuilder();

        private void save() {
            saved.addLast(all.copy());
            if (saved.size() > 6) {
                saved.removeFirst();
            }
        }

        private Rope at(int rope) {
            index(in(rope, 0, all.ropes.size() - 1));
            return all.ropes.get(rope);
        }

        private List<Integer> hues(Rope rope, int place) {
            List<Integer> hues = new ArrayList<>();
            for (Map.Entry<Integer, Integer> laid : rope.phases.entrySet()) {
                if (place >= laid.getValue() && (place - laid.getValue()) % all.gaps[laid.getKey()] == 0) {
                    hues.add(laid.getKey());
                }
            }
            return hues;
        }

        private int colour(Rope rope, int place) {
            List<Integer> hues = hues(rope, place);
            return hues.isEmpty() ? -1 : hues.get(0);
        }

        private boolean clash(Rope rope) {
            for (int place = 0; place < rope.length; place++) {
                if (hues(rope, place).size() > 1) {
                    return true;
                }
            }
            return false;
        }

        private List<Integer> places(Rope rope, int hue) {
            List<Integer> places = new ArrayList<>();
            for (int place = 0; place < rope.length; place++) {
                if (hues(rope, place).contains(hue)) {
                    places.add(place);
                }
            }
            return places;
        }

        int gap(int hue, int gap) {
            index(in(hue, 0, 7));
            argument(in(gap, 2, 20));
            for (Rope rope : all.ropes) {
                state(!rope.phases.containsKey(hue));
            }
            save();
            int before = all.gaps[hue];
            all.gaps[hue] = gap;
            return before;
        }

        int rope(int length) {
            argument(in(length, 1, 60));
            state(all.ropes.size() < 4);
            save();
            all.ropes.add(new Rope(length));
            return all.ropes.size() - 1;
        }

        int drop(int rope) {
            at(rope);
            save();
            all.ropes.remove(rope);
            return all.ropes.size();
        }

        int reason(Rope rope, int hue, int phase) {
            if (rope.phases.containsKey(hue)) {
                return 1;
            }
            if (phase >= rope.length) {
                return 2;
            }
            Rope tried = rope.copy();
            tried.phases.put(hue, phase);
            return clash(tried) ? 3 : 0;
        }

        int refusal(int rope, int hue, int phase) {
            Rope on = at(rope);
            index(in(hue, 0, 7));
            argument(in(phase, 0, all.gaps[hue] - 1));
            return reason(on, hue, phase);
        }

        int lay(int rope, int hue, int phase) {
            state(refusal(rope, hue, phase) == 0);
            save();
            all.layings++;
            at(rope).phases.put(hue, phase);
            return places(at(rope), hue).size();
        }

        int take(int rope, int hue) {
            Rope off = at(rope);
            index(in(hue, 0, 7));
            state(off.phases.containsKey(hue));
            save();
            int places = places(off, hue).size();
            off.phases.remove(hue);
            return places;
        }

        int stretch(int rope, int length) {
            Rope old = at(rope);
            argument(in(length, 1, 60));
            Rope changed = old.copy();
            changed.length = length;
            changed.phases.values().removeIf(phase -> phase >= length);
            state(!clash(changed));
            save();
            all.ropes.set(rope, changed);
            return old.phases.size() - changed.phases.size();
        }

        int cut(int rope, int place) {
            Rope old = at(rope);
            argument(in(place, 1, old.length - 1));
            state(all.ropes.size() < 4);
            save();
            Rope front = new Rope(place);
            Rope back = new Rope(old.length - place);
            for (int hue : old.phases.keySet()) {
                for (int taken : places(old, hue)) {
                    (taken < place ? front : back).phases.putIfAbsent(hue, taken < place ? taken : taken - place);
                }
            }
            all.ropes.set(rope, front);
            all.ropes.add(back);
            all.cuts++;
            return all.ropes.size() - 1;
        }

        private int turned(Rope rope) {
            Rope old = rope.copy();
            for (int hue : old.phases.keySet()) {
                int least = 60;
                for (int taken : places(old, hue)) {
                    least = Math.min(least, rope.length - 1 - taken);
                }
                rope.phases.put(hue, least);
            }
            int changed = 0;
            for (int place = 0; place < rope.length; place++) {
                changed += colour(old, place) == colour(rope, place) ? 0 : 1;
            }
            return changed;
        }

        int turn(int rope) {
            at(rope);
            save();
            return turned(at(rope));
        }

        private Rope joined(Rope front, Rope back) {
            Rope joined = front.copy();
            joined.length = front.length + back.length;
            for (Map.Entry<Integer, Integer> laid : back.phases.entrySet()) {
                int first = front.length + laid.getValue();
                while (first - all.gaps[laid.getKey()] >= 0) {
                    first -= all.gaps[laid.getKey()];
                }
                joined.phases.putIfAbsent(laid.getKey(), first);
            }
            return joined;
        }

        int joining(int rope, int other) {
            Rope front = at(rope);
            Rope back = at(other);
            if (front == back) {
                return 1;
            }
            if (front.length + back.length > 60) {
                return 2;
            }
            for (int hue : front.phases.keySet()) {
                if (back.phases.containsKey(hue)) {
                    List<Integer> places = places(front, hue);
                    int last = places.get(places.size() - 1);
                    if (front.length + back.phases.get(hue) - last != all.gaps[hue]) {
                        return 3;
                    }
                }
            }
            return clash(joined(front, back)) ? 4 : 0;
        }

        int join(int rope, int other) {
            state(joining(rope, other) == 0);
            save();
            Rope joined = joined(at(rope), at(other));
            all.ropes.set(rope, joined);
            all.ropes.remove(other);
            all.joins++;
            return joined.length;
        }

        int append(int code) {
            argument(in(code, 33, 126));
            state(buffer.length() < 60);
            buffer.append((char) code);
            return buffer.length();
        }

        int clearBuffer() {
            int length = buffer.length();
            buffer.setLength(0);
            return length;
        }

        int firstError() {
            for (int length = 1; length <= buffer.length(); length++) {
                Matcher matcher = TEXT.matcher(buffer.substring(0, length));
                if (!matcher.matches() && !matcher.hitEnd()) {
                    return length - 1;
                }
            }
            return buffer.length();
        }

        int play() {
            argument(TEXT.matcher(buffer).matches());
            save();
            int done = 0;
            for (String part : buffer.toString().split(",")) {
                if (!played(part)) {
                    break;
                }
                done++;
            }
            buffer.setLength(0);
            return done;
        }

        private boolean played(String part) {
            int ropes = all.ropes.size();
            if (part.startsWith("r")) {
                return ropes < 4 && all.ropes.add(new Rope(Integer.parseInt(part.substring(1))));
            }
            if (ropes == 0) {
                return false;
            }
            Rope last = all.ropes.get(ropes - 1);
            if (part.equals("<")) {
                turned(last);
                return true;
            }
            if (part.startsWith("-")) {
                return last.phases.remove(part.charAt(1) - 'a') != null;
            }
            int hue = part.charAt(0) - 'a';
            int phase = Integer.parseInt(part.substring(1));
            if (all.gaps[hue] <= phase || reason(last, hue, phase) != 0) {
                return false;
            }
            last.phases.put(hue, phase);
            all.layings++;
            return true;
        }

        int undo() {
            state(!saved.isEmpty());
            all = saved.removeLast();
            return saved.size();
        }

        int keep() {
            kept = all.copy();
            return all.ropes.size();
        }

        int restore() {
            state(kept != null);
            save();
            all = kept.copy();
            return all.ropes.size();
        }

        int place(int rope, int place) {
            Rope seen = at(rope);
            index(in(place, 0, seen.length - 1));
            return colour(seen, place);
        }

        private String holes(Rope rope) {
            StringBuilder holes = new StringBuilder();
            for (int place = 0; place < rope.length; place++) {
                holes.append(colour(rope, place) == -1 ? '.' : '#');
            }
            return holes.toString();
        }

        int ropeOf(int rope, int what) {
            Rope seen = at(rope);
            argument(in(what, 0, 5));
            String holes = holes(seen);
            switch (what) {
                case 0:
                    return seen.length;
                case 1:
                    return seen.phases.size();
                case 2:
                    return holes.replace("#", "").length();
                case 3:
                    return holes.indexOf('.');
                case 4:
                    int most = 0;
                    while (holes.contains(".".repeat(most + 1))) {
                        most++;
                    }
                    return most;
                default:
                    return period(seen);
            }
        }

        private int period(Rope rope) {
            int period = 1;
            for (int hue : rope.phases.keySet()) {
                int multiple = period;
                while (multiple % all.gaps[hue] != 0) {
                    multiple += period;
                }
                period = multiple;
            }
            return period;
        }

        int hueOf(int rope, int hue, int what) {
            Rope seen = at(rope);
            index(in(hue, 0, 7));
            argument(in(what, 0, 3));
            List<Integer> places = places(seen, hue);
            if (places.isEmpty()) {
                return -1;
            }
            int[] numbers = {places.get(0), places.size(), places.get(places.size() - 1),
                new ArrayList<>(seen.phases.keySet()).indexOf(hue)};
            return numbers[what];
        }

        int gapOf(int hue) {
            index(in(hue, 0, 7));
            return all.gaps[hue];
        }

        int count(int what) {
            argument(in(what, 0, 7));
            int places = 0;
            int free = 0;
            java.util.Set<Integer> hues = new java.util.HashSet<>();
            for (int rope = 0; rope < all.ropes.size(); rope++) {
                places += ropeOf(rope, 0);
                free += ropeOf(rope, 2);
                hues.addAll(at(rope).phases.keySet());
            }
            int[] numbers = {all.ropes.size(), places, free, hues.size(), all.layings, all.joins, all.cuts, saved.size()};
            return numbers[what];
        }

        int meeting(int hue, int phase, int other, int otherPhase) {
            index(in(hue, 0, 7) && in(other, 0, 7));
            argument(in(phase, 0, all.gaps[hue] - 1) && in(otherPhase, 0, all.gaps[other] - 1));
            for (int place = Math.max(phase, otherPhase); place < 800; place++) {
                if ((place - phase) % all.gaps[hue] == 0 && (place - otherPhase) % all.gaps[other] == 0) {
                    return place;
                }
            }
            return -1;
        }

        private int took(Rope rope, int hue, int phase) {
            Rope tried = rope.copy();
            tried.phases.put(hue, phase);
            return places(tried, hue).size();
        }

        int phases(int rope, int hue, int what) {
            Rope seen = at(rope);
            index(in(hue, 0, 7));
            argument(in(what, 0, 2));
            List<Integer> fitting = new ArrayList<>();
            int best = -1;
            for (int phase = 0; phase < all.gaps[hue]; phase++) {
                if (reason(seen, hue, phase) == 0) {
                    fitting.add(phase);
                    best = best == -1 || took(seen, hue, phase) > took(seen, hue, best) ? phase : best;
                }
            }
            int[] numbers = {fitting.size(), fitting.isEmpty() ? -1 : fitting.get(0), best};
            return numbers[what];
        }

        int bestHue(int rope) {
            Rope seen = at(rope);
            int best = -1;
            int most = 0;
            for (int hue = 7; hue >= 0; hue--) {
                int phase = phases(rope, hue, 2);
                if (phase != -1 && took(seen, hue, phase) >= most) {
                    best = hue;
                    most = took(seen, hue, phase);
                }
            }
            return best;
        }

        int greatest(int rope) {
            Rope tried = at(rope).copy();
            for (tried.length = 60; clash(tried); tried.length--) {
                index(tried.length > 0);
            }
            return tried.length;
        }

        double fullness() {
            return all.ropes.isEmpty() ? 1.0 : (count(1) - count(2)) / (double) count(1);
        }

        long digest() {
            List<Long> values = new ArrayList<>();
            for (int what = 0; what < 8; what++) {
                values.add((long) count(what));
            }
            for (int gap : all.gaps) {
                values.add((long) gap);
            }
            for (int rope = 0; rope < all.ropes.size(); rope++) {
                digestRope(values, rope);
            }
            for (int hue = 0; hue < 8; hue++) {
                values.add((long) meeting(0, 1, hue, 0));
            }
            values.add(Double.doubleToLongBits(fullness()));
            values.add((long) buffer.length());
            buffer.chars().forEach(code -> values.add((long) code));
            long hash = 3643;
            for (long value : values) {
                hash = 31 * hash + value;
            }
            return hash;
        }

        private void digestRope(List<Long> values, int rope) {
            for (int what = 0; what < 6; what++) {
                values.add((long) ropeOf(rope, what));
            }
            for (int place = 0; place < at(rope).length; place++) {
                values.add((long) place(rope, place));
            }
            for (int hue = 0; hue < 8; hue++) {
                for (int what = 0; what < 4; what++) {
                    values.add((long) hueOf(rope, hue, what));
                }
                for (int what = 0; what < 3; what++) {
                    values.add((long) phases(rope, hue, what));
                }
            }
            values.add((long) bestHue(rope));
            values.add((long) greatest(rope));
            values.add((long) joining(rope, 0));
        }
    }

    /** One run of calls on a new object and a new model; the same numbers come each time. */
    private static final class Run {
        private final int run;
        private final Model model = new Model();
        private final PennantRopes object = new PennantRopes();
        private long seed;
        private int calls;

        Run(int run) {
            this.run = run;
            this.seed = run * 7919L;
        }

        void go() {
            if (some(3) == 0) {
                for (int hue = 0; hue < 8; hue++) {
                    int h = hue;
                    int gap = some(2) == 0 ? 2 * (1 + some(10)) : between(10, 20);
                    both("gap " + h + " " + gap, () -> model.gap(h, gap), () -> object.gap(h, gap));
                }
            }
            while (calls < CALLS) {
                int kind = some(100);
                if (kind < 60) {
                    change(kind);
                } else if (kind < 95) {
                    look(kind - 60);
                } else if (kind < 97) {
                    both("digest", model::digest, object::digest);
                } else {
                    text();
                }
            }
            both("digest", model::digest, object::digest);
        }

        private int some(int bound) {
            seed = seed * 6364136223846793005L + 1442695040888963407L;
            return (int) ((seed >>> 33) % bound);
        }

        private int between(int least, int greatest) {
            return least + some(greatest - least + 1);
        }

        /** Mostly a number from least to greatest, now and then one beside. */
        private int about(int least, int greatest) {
            return some(40) == 0 ? (some(2) == 0 ? least - 1 : greatest + 1) : between(least, Math.max(least, greatest));
        }

        private int aRope() {
            return about(0, model.all.ropes.size() - 1);
        }

        private int aPhase(int hue) {
            return about(0, in(hue, 0, 7) ? model.all.gaps[hue] - 1 : 1);
        }

        private int aLength(int rope) {
            return in(rope, 0, model.all.ropes.size() - 1) ? model.all.ropes.get(rope).length : 60;
        }

        private String answer(Check.Call call) {
            try {
                return "" + call.answer();
            } catch (Wrong e) {
                return e.due.getName();
            } catch (RuntimeException e) {
                return e.getClass().getName();
            }
        }

        private void both(String what, Check.Call due, Check.Call got) {
            calls++;
            Check.sameText("run " + run + ", call " + calls + ": " + what, answer(got), answer(due));
        }

        private void change(int kind) {
            int rope = aRope();
            int other = aRope();
            int hue = about(0, 7);
            int phase = aPhase(hue);
            int length = about(1, some(3) == 0 ? 60 : 20);
            int gap = about(2, 20);
            int place = about(1, aLength(rope) - 1);
            if (kind < 25) {
                both("lay " + rope + " " + hue + " " + phase, () -> model.lay(rope, hue, phase), () -> object.lay(rope, hue, phase));
            } else if (kind < 30) {
                both("rope " + length, () -> model.rope(length), () -> object.rope(length));
            } else if (kind < 32) {
                both("drop " + rope, () -> model.drop(rope), () -> object.drop(rope));
            } else if (kind < 36) {
                both("take " + rope + " " + hue, () -> model.take(rope, hue), () -> object.take(rope, hue));
            } else if (kind < 40) {
                both("stretch " + rope + " " + length, () -> model.stretch(rope, length), () -> object.stretch(rope, length));
            } else if (kind < 45) {
                both("cut " + rope + " " + place, () -> model.cut(rope, place), () -> object.cut(rope, place));
            } else if (kind < 49) {
                both("turn " + rope, () -> model.turn(rope), () -> object.turn(rope));
            } else if (kind < 54) {
                both("join " + rope + " " + other, () -> model.join(rope, other), () -> object.join(rope, other));
            } else if (kind < 56) {
                both("gap " + hue + " " + gap, () -> model.gap(hue, gap), () -> object.gap(hue, gap));
            } else if (kind < 58) {
                both("undo", model::undo, object::undo);
            } else if (kind < 59) {
                both("keep", model::keep, object::keep);
            } else {
                both("restore", model::restore, object::restore);
            }
        }

        private void look(int kind) {
            int rope = aRope();
            int other = aRope();
            int hue = about(0, 7);
            int otherHue = about(0, 7);
            int phase = aPhase(hue);
            int otherPhase = aPhase(otherHue);
            int what = about(0, 7);
            int place = about(0, aLength(rope) - 1);
            String numbers = " " + hue + " " + phase + " " + otherHue + " " + otherPhase;
            if (kind < 4) {
                both("place " + rope + " " + place, () -> model.place(rope, place), () -> object.place(rope, place));
            } else if (kind < 8) {
                both("ropeOf " + rope + " " + what, () -> model.ropeOf(rope, what), () -> object.ropeOf(rope, what));
            } else if (kind < 12) {
                int number = what / 2;
                both("hueOf " + rope + " " + hue + " " + number, () -> model.hueOf(rope, hue, number), () -> object.hueOf(rope, hue, number));
            } else if (kind < 13) {
                both("gapOf " + hue, () -> model.gapOf(hue), () -> object.gapOf(hue));
            } else if (kind < 16) {
                both("count " + what, () -> model.count(what), () -> object.count(what));
            } else if (kind < 18) {
                both("refusal " + rope + " " + hue + " " + phase, () -> model.refusal(rope, hue, phase), () -> object.refusal(rope, hue, phase));
            } else if (kind < 20) {
                both("meeting" + numbers, () -> model.meeting(hue, phase, otherHue, otherPhase),
                    () -> object.meeting(hue, phase, otherHue, otherPhase));
            } else if (kind < 22) {
                both("walked" + numbers, () -> model.meeting(hue, phase, otherHue, otherPhase),
                    () -> object.walked(hue, phase, otherHue, otherPhase));
            } else if (kind < 25) {
                int number = what / 2;
                both("phases " + rope + " " + hue + " " + number, () -> model.phases(rope, hue, number), () -> object.phases(rope, hue, number));
            } else if (kind < 28) {
                both("bestHue " + rope, () -> model.bestHue(rope), () -> object.bestHue(rope));
            } else if (kind < 31) {
                both("joining " + rope + " " + other, () -> model.joining(rope, other), () -> object.joining(rope, other));
            } else if (kind < 34) {
                both("greatest " + rope, () -> model.greatest(rope), () -> object.greatest(rope));
            } else {
                both("fullness", () -> Double.doubleToLongBits(model.fullness()), () -> Double.doubleToLongBits(object.fullness()));
            }
        }

        private String part() {
            int hue = some(8);
            switch (some(6)) {
                case 0:
                    return "r" + about(1, 60);
                case 1:
                    return "<";
                case 2:
                    return "-" + (char) ('a' + hue);
                default:
                    return "" + (char) ('a' + hue) + (some(10) == 0 ? some(22) : some(model.all.gaps[hue]));
            }
        }

        private void text() {
            StringBuilder text = new StringBuilder(some(4) == 0 ? "r" + between(1, 60) : part());
            for (int parts = some(6); parts > 0; parts--) {
                text.append(',').append(part());
            }
            if (some(5) == 0) {
                text.setCharAt(some(text.length()), (char) about(33, 126));
            }
            for (int index = 0; index < text.length() && calls < CALLS - 2; index++) {
                int code = text.charAt(index);
                both("append " + code, () -> model.append(code), () -> object.append(code));
            }
            both("firstError", model::firstError, object::firstError);
            both("play", model::play, object::play);
            if (some(4) != 0) {
                both("clearBuffer", model::clearBuffer, object::clearBuffer);
            }
        }
    }
}
