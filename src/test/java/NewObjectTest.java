/** Promise 1, and the constant. */
final class NewObjectTest {
    public static void main(String[] args) {
        PennantRopes x = new PennantRopes();
        for (int hue = 0; hue < 8; hue++) {
            Check.same("gapOf " + hue, x.gapOf(hue), 2 + hue);
        }
        for (int what = 0; what < 8; what++) {
            Check.same("count " + what, x.count(what), 0);
        }
        Check.same("length of the buffer", x.clearBuffer(), 0);
        Check.fails("restore", x, Check.STATE, x::restore);
        Check.fails("undo", x, Check.STATE, x::undo);
        Check.fails("place", x, Check.INDEX, () -> x.place(0, 0));
        Check.sameDouble("fullness", x.fullness(), 1.0);
        Check.same("NONE", PennantRopes.NONE, -1);
        twoObjectsAreApart();
        Check.end();
    }

    private static void twoObjectsAreApart() {
        PennantRopes one = new PennantRopes();
        PennantRopes other = new PennantRopes();
        one.gap(3, 17);
        one.rope(5);
        one.keep();
        one.append('r');
        Check.same("gap of the other", other.gapOf(3), 5);
        Check.same("ropes of the other", other.count(0), 0);
        Check.same("buffer of the other", other.clearBuffer(), 0);
        Check.fails("restore of the other", other, Check.STATE, other::restore);
    }
}
