import java.util.ArrayList;
import java.util.List;

/** The hash of promise 31, put together from the answers of the other calls. */
final class Digests {
    private Digests() {
    }

    static long hashed(PennantRopes x, String buffer) {
        long hash = 3643;
        for (long value : values(x, buffer)) {
            hash = 31 * hash + value;
        }
        return hash;
    }

    private static List<Long> values(PennantRopes x, String buffer) {
        List<Long> values = new ArrayList<>();
        for (int what = 0; what < 8; what++) {
            values.add((long) x.count(what));
        }
        for (int hue = 0; hue < 8; hue++) {
            values.add((long) x.gapOf(hue));
        }
        for (int rope = 0; rope < x.count(0); rope++) {
            addRope(values, x, rope);
        }
        for (int hue = 0; hue < 8; hue++) {
            values.add((long) x.meeting(0, 1, hue, 0));
        }
        values.add(Double.doubleToLongBits(x.fullness()));
        values.add((long) buffer.length());
        for (char code : buffer.toCharArray()) {
            values.add((long) code);
        }
        return values;
    }

    private static void addRope(List<Long> values, PennantRopes x, int rope) {
        for (int what = 0; what < 6; what++) {
            values.add((long) x.ropeOf(rope, what));
        }
        for (int place = 0; place < x.ropeOf(rope, 0); place++) {
            values.add((long) x.place(rope, place));
        }
        for (int hue = 0; hue < 8; hue++) {
            for (int what = 0; what < 4; what++) {
                values.add((long) x.hueOf(rope, hue, what));
            }
            for (int what = 0; what < 3; what++) {
                values.add((long) x.phases(rope, hue, what));
            }
        }
        values.add((long) x.bestHue(rope));
        values.add((long) x.greatest(rope));
        values.add((long) x.joining(rope, 0));
    }
}
