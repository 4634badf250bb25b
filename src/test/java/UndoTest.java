/** Promises 15 to 17, and that each call that is marked undoable saves one state, and no other call does. */
final class UndoTest {
    public static void main(String[] args) {
        undo();
        undoable();
        notUndoable();
        sixStates();
        wrongCallsSaveNothing();
        bufferStays();
        keep();
        restore();
        snapshotStays();
        Check.end();
    }

    private static PennantRopes some() {
        PennantRopes x = new PennantRopes();
        x.gap(7, 12);
        x.rope(12);
        x.rope(9);
        x.lay(0, 2, 1);
        x.lay(0, 0, 0);
        x.keep();
        x.lay(1, 6, 1);
        return x;
    }

    private static void undo() {
        PennantRopes x = new PennantRopes();
        Check.fails("nothing saved", x, Check.STATE, x::undo);
        x.gap(0, 9);
        x.rope(5);
        Check.same("first", x.undo(), 1);
        Check.same("no rope", x.count(0), 0);
        Check.same("the gap stays", x.gapOf(0), 9);
        Check.same("second", x.undo(), 0);
        Check.same("the gap", x.gapOf(0), 2);
        Check.fails("nothing saved any more", x, Check.STATE, x::undo);
    }

    private static void undone(String what, PennantRopes x, Check.Call call) {
        while (x.count(7) > 2) {
            x.undo();
        }
        long before = x.digest();
        call.answer();
        Check.same("saved states behind " + what, x.count(7), 3);
        Check.same("undo of " + what, x.undo(), 2);
        Check.same("digest behind undo of " + what, x.digest(), before);
    }

    private static void undoable() {
        PennantRopes x = some();
        undone("gap", x, () -> x.gap(7, 3));
        undone("gap, the same", x, () -> x.gap(7, 12));
        undone("rope", x, () -> x.rope(5));
        PennantRopes y = new PennantRopes();
        Check.play(y, "r12,c1,a0,r9,g1");
        y.turn(0);
        undone("drop", y, () -> y.drop(0));
        undone("lay", y, () -> y.lay(1, 0, 0));
        undone("take", y, () -> y.take(1, 6));
        undone("stretch", y, () -> y.stretch(0, 1));
        undone("stretch, the same", y, () -> y.stretch(0, 12));
        undone("cut", y, () -> y.cut(0, 5));
        undone("turn", y, () -> y.turn(1));
        undone("play", y, () -> Check.play(y, "r5,a0,<"));
        undone("play, nothing", y, () -> Check.play(y, "-a"));
        PennantRopes z = new PennantRopes();
        Check.play(z, "r12,c1,a0,r9,g1,r4");
        z.keep();
        z.rope(7);
        undone("join", z, () -> z.join(1, 2));
        undone("turn, nothing", z, () -> z.turn(2));
        undone("restore", z, z::restore);
    }

    private static void notUndoable() {
        PennantRopes x = some();
        int before = x.count(7);
        x.undo();
        x.keep();
        x.append('r');
        x.firstError();
        x.clearBuffer();
        x.digest();
        x.fullness();
        x.joining(0, 1);
        x.greatest(0);
        x.bestHue(0);
        x.phases(0, 1, 0);
        x.refusal(0, 1, 0);
        x.meeting(0, 0, 1, 0);
        x.walked(0, 0, 1, 0);
        Check.same("saved states", x.count(7), before - 1);
    }

    private static void sixStates() {
        PennantRopes x = new PennantRopes();
        for (int gap = 3; gap <= 12; gap++) {
            x.gap(0, gap);
            Check.same("saved states", x.count(7), Math.min(6, gap - 2));
        }
        for (int left = 5; left >= 0; left--) {
            Check.same("undo", x.undo(), left);
            Check.same("gap", x.gapOf(0), 6 + left);
        }
        Check.fails("the seventh", x, Check.STATE, x::undo);
        Check.same("gap", x.gapOf(0), 6);
        x.gap(0, 15);
        x.gap(0, 16);
        Check.same("undo", x.undo(), 1);
        Check.same("gap", x.gapOf(0), 15);
    }

    private static void wrongCallsSaveNothing() {
        PennantRopes x = some();
        x.undo();
        Check.fails("turn", x, Check.INDEX, () -> x.turn(3));
        Check.fails("lay", x, Check.STATE, () -> x.lay(0, 0, 0));
        Check.same("saved states", x.count(7), 5);
    }

    private static void bufferStays() {
        PennantRopes x = new PennantRopes();
        Check.write(x, "r5");
        x.keep();
        x.rope(4);
        x.append(',');
        x.undo();
        Check.same("behind undo", x.firstError(), 3);
        x.append('<');
        x.restore();
        Check.same("behind restore", x.firstError(), 4);
        Check.same("play", x.play(), 2);
        x.undo();
        Check.same("play cleared it", x.clearBuffer(), 0);
    }

    private static void keep() {
        PennantRopes x = new PennantRopes();
        Check.same("no rope", x.keep(), 0);
        x.rope(4);
        x.rope(5);
        Check.same("two ropes", x.keep(), 2);
        x.drop(0);
        Check.same("restore", x.restore(), 2);
        Check.same("length", x.ropeOf(0, 0), 4);
        x.drop(0);
        x.keep();
        x.rope(9);
        Check.same("the snapshot in place of the one before", x.restore(), 1);
        Check.same("length", x.ropeOf(0, 0), 5);
    }

    private static void restore() {
        PennantRopes x = new PennantRopes();
        Check.fails("no snapshot", x, Check.STATE, x::restore);
        x.gap(5, 11);
        x.rope(11);
        x.rope(4);
        x.lay(0, 5, 3);
        x.join(0, 1);
        x.keep();
        String kept = Check.look(x, 0);
        x.cut(0, 5);
        x.take(0, 5);
        x.drop(1);
        x.gap(5, 4);
        x.lay(0, 1, 0);
        Check.same("restore", x.restore(), 1);
        Check.sameText("rope", Check.look(x, 0), kept);
        Check.same("gap", x.gapOf(5), 11);
        Check.same("layings", x.count(4), 1);
        Check.same("joins", x.count(5), 1);
        Check.same("cuts", x.count(6), 0);
        Check.same("saved states", x.count(7), 6);
        Check.same("undo of it", x.undo(), 5);
        Check.same("gap", x.gapOf(5), 4);
        Check.same("layings", x.count(4), 2);
        Check.same("cuts", x.count(6), 1);
    }

    private static void snapshotStays() {
        PennantRopes x = new PennantRopes();
        x.rope(4);
        x.keep();
        x.undo();
        Check.same("behind undo of what is ahead of it", x.restore(), 1);
        x.lay(0, 0, 0);
        x.turn(0);
        Check.same("again", x.restore(), 1);
        Check.sameText("rope", Check.look(x, 0), ".... ");
        x.drop(0);
        Check.same("once more", x.restore(), 1);
    }
}
