/** The sentences of the promises 15 to 17, each with a test of its own. */
final class UndoSentencesTest {
    public static void main(String[] args) {
        Check.sentences(UndoSentencesTest.class);
    }

    // ---- Promise 15: undo

    @Sentence(of = "Promise 15", says = "Restores the latest saved state, and drops it.")
    static void theLatestStateFirst() {
        PennantRopes x = new PennantRopes();
        long[] digests = new long[7];
        for (int call = 0; call < 6; call++) {
            digests[call] = x.digest();
            x.gap(call, 20);
        }
        for (int call = 5; call >= 0; call--) {
            x.undo();
            Check.same("the state ahead of call " + call, x.digest(), digests[call]);
        }
        x.gap(0, 15);
        x.undo();
        Check.same("an undone call is not done again", x.gapOf(0), 2);
        Check.fails("it is dropped", x, Check.STATE, x::undo);
    }

    @Sentence(of = "Promise 15", says = "Returns how many saved states are left.")
    static void savedStatesThatAreLeft() {
        for (int calls = 1; calls <= 10; calls++) {
            PennantRopes x = new PennantRopes();
            for (int call = 0; call < calls; call++) {
                x.gap(0, 5 + call);
            }
            for (int left = Math.min(calls, 6) - 1; left >= 0; left--) {
                Check.same(calls + " calls, undo", x.undo(), left);
                Check.same(calls + " calls, saved states", x.count(7), left);
            }
        }
    }

    @Sentence(of = "Promise 15", says = "Throws `IllegalStateException` if there is none")
    static void undoWithoutSavedState() {
        PennantRopes x = new PennantRopes();
        Check.fails("a new object", x, Check.STATE, x::undo);
        x.keep();
        x.append('r');
        x.clearBuffer();
        Check.fails("behind calls that are not undoable", x, Check.STATE, x::undo);
        Check.fails("a call that throws", x, Check.ARGUMENT, () -> x.rope(0));
        Check.fails("behind a call that throws", x, Check.STATE, x::undo);
        x.rope(1);
        Check.same("one", x.undo(), 0);
        Check.fails("it is used up", x, Check.STATE, x::undo);
        for (int call = 0; call < 7; call++) {
            x.gap(0, 10 + call);
        }
        for (int left = 5; left >= 0; left--) {
            Check.same("undo", x.undo(), left);
        }
        Check.fails("the seventh", x, Check.STATE, x::undo);
        Check.same("the state behind the first call", x.gapOf(0), 10);
    }

    // ---- Promise 16: keep

    @Sentence(of = "Promise 16", says = "Takes a snapshot, in place of the one before.")
    static void theSnapshotBeforeIsForgotten() {
        PennantRopes x = Check.played("r1,h0");
        x.keep();
        x.gap(0, 20);
        Check.play(x, "r2,g1");
        x.keep();
        x.drop(0);
        x.drop(0);
        x.gap(0, 5);
        x.restore();
        Check.sameText("the second one", Check.looks(x), "h h/.g g");
        Check.same("its gap", x.gapOf(0), 20);
        x.drop(1);
        Check.changesNothing("keep", x, x::keep);
        x.restore();
        Check.sameText("the third one", Check.looks(x), "h h");
    }

    @Sentence(of = "Promise 16", says = "Returns how many ropes there are.")
    static void noneTo4RopesAreKept() {
        PennantRopes x = new PennantRopes();
        for (int ropes = 0; ropes < 4; ropes++) {
            Check.same("ropes", x.keep(), ropes);
            x.rope(1);
        }
        Check.same("ropes", x.keep(), 4);
        Check.same("once more", x.keep(), 4);
        x.drop(0);
        Check.same("less one", x.keep(), 3);
    }

    // ---- Promise 17: restore

    @Sentence(of = "Promise 17", says = "Restores the state of the snapshot, which stays.")
    static void theSameStateAgainAndAgain() {
        PennantRopes x = Check.played("r9,h0,g1,r5,e2,r7,a0");
        x.gap(5, 13);
        x.cut(0, 4);
        x.join(0, 3);
        x.keep();
        String kept = Check.looks(x);
        for (int again = 0; again < 3; again++) {
            x.drop(1);
            Check.play(x, "-a,r3,f0,<");
            x.gap(2, 20 - again);
            x.turn(0);
            x.cut(0, 1);
            x.restore();
            Check.sameText("ropes", Check.looks(x), kept);
            Check.same("gap of 5", x.gapOf(5), 13);
            Check.same("gap of 2", x.gapOf(2), 4);
            Check.same("layings", x.count(4), 4);
            Check.same("joins", x.count(5), 1);
            Check.same("cuts", x.count(6), 1);
            Check.same("saved states", x.count(7), 6);
        }
    }

    @Sentence(of = "Promise 17", says = "Undoable.")
    static void restoreIsUndone() {
        PennantRopes x = Check.played("r9,h0");
        x.keep();
        Check.undone("restore of the same", x, x::restore);
        Check.play(x, "g1,r3");
        x.gap(0, 20);
        Check.undone("restore of less", x, x::restore);
        Check.sameText("as before", Check.looks(x), "hg....... hg/... ");
        Check.same("the gap", x.gapOf(0), 20);
        PennantRopes none = new PennantRopes();
        none.keep();
        Check.play(none, "r1,r1,r1,r1");
        Check.undone("restore of no ropes", none, none::restore);
        none.restore();
        none.drop(none.rope(1));
        Check.undone("restore of no ropes again", none, none::restore);
    }

    @Sentence(of = "Promise 17", says = "Returns how many ropes there are then.")
    static void noneTo4RopesAreRestored() {
        for (int ropes = 0; ropes <= 4; ropes++) {
            PennantRopes x = new PennantRopes();
            for (int rope = 0; rope < ropes; rope++) {
                x.rope(1 + rope);
            }
            x.keep();
            Check.same("the same", x.restore(), ropes);
            if (ropes > 0) {
                x.drop(0);
            } else {
                x.rope(1);
            }
            Check.same("after a change", x.restore(), ropes);
            Check.same("ropes", x.count(0), ropes);
        }
    }

    @Sentence(of = "Promise 17", says = "Throws `IllegalStateException` if there is no snapshot")
    static void restoreWithoutSnapshot() {
        PennantRopes x = new PennantRopes();
        Check.fails("a new object", x, Check.STATE, x::restore);
        x.rope(1);
        Check.fails("with a saved state", x, Check.STATE, x::restore);
        x.undo();
        Check.fails("behind undo", x, Check.STATE, x::restore);
        x.keep();
        Check.same("a snapshot without ropes", x.restore(), 0);
        x.undo();
        Check.same("it stays behind undo", x.restore(), 0);
    }
}
