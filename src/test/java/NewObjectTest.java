/** Promise 1. */
final class NewObjectTest {
    public static void main(String[] args) {
        PennantRopes x = new PennantRopes();
        for (int hue = 0; hue < 8; hue++) {
            Check.same("gapOf " + hue, x.gapOf(hue), 2 + hue);
        }
        for (int what = 0; what < 8; what++) {
            Check.same("count " + what, x.count(what), 0);
        }
        Check.same("length of the buffer", x.clearBuffer(), 0);
        Check.fails("restore", IllegalStateException.class, x::restore);
        Check.fails("undo", IllegalStateException.class, x::undo);
        Check.fails("place", IndexOutOfBoundsException.class, () -> x.place(0, 0));
        Check.sameDouble("fullness", x.fullness(), 1.0);
        Check.same("NONE", PennantRopes.NONE, -1);
        Check.end();
    }
}
