/** The sentences of the promises 1 to 6, each with a test of its own. */
final class HuesAndRopesSentencesTest {
    public static void main(String[] args) {
        Check.sentences(HuesAndRopesSentencesTest.class);
    }

    // ---- Promise 1: a new object

    @Sentence(of = "Promise 1", says = "Creates hues as told above")
    static void newHues() {
        PennantRopes x = new PennantRopes();
        for (int hue = 0; hue < 8; hue++) {
            Check.same("gap of " + hue, x.gapOf(hue), hue + 2);
        }
        Check.same("hues that are laid", x.count(3), 0);
    }

    @Sentence(of = "Promise 1", says = "without ropes")
    static void noRopes() {
        PennantRopes x = new PennantRopes();
        for (int what = 0; what < 8; what++) {
            Check.same("count " + what, x.count(what), 0);
        }
        Check.fails("rope 0", x, Check.INDEX, () -> x.ropeOf(0, 0));
        Check.same("the first rope's number", x.rope(1), 0);
    }

    @Sentence(of = "Promise 1", says = "and a snapshot")
    static void noSnapshot() {
        PennantRopes x = new PennantRopes();
        Check.fails("restore", x, Check.STATE, x::restore);
        Check.fails("undo", x, Check.STATE, x::undo);
    }

    @Sentence(of = "Promise 1", says = "with an empty buffer.")
    static void emptyBuffer() {
        PennantRopes x = new PennantRopes();
        Check.same("firstError", x.firstError(), 0);
        Check.same("clearBuffer", x.clearBuffer(), 0);
        Check.same("append", x.append('r'), 1);
    }

    // ---- Promise 2: gap

    @Sentence(of = "Promise 2", says = "Changes the gap of a hue.")
    static void gapOfOneHueAlone() {
        PennantRopes x = new PennantRopes();
        x.gap(3, 20);
        for (int hue = 0; hue < 8; hue++) {
            Check.same("gap of " + hue, x.gapOf(hue), hue == 3 ? 20 : hue + 2);
        }
        x.rope(21);
        Check.same("the phase can be 19 then", x.lay(0, 3, 19), 1);
        x.take(0, 3);
        Check.same("places 0 and 20", x.lay(0, 3, 0), 2);
    }

    @Sentence(of = "Promise 2", says = "Undoable.")
    static void gapIsUndone() {
        PennantRopes x = new PennantRopes();
        Check.undone("gap", x, () -> x.gap(0, 20));
        Check.undone("gap, the same", x, () -> x.gap(7, 9));
        Check.same("gap of 0", x.gapOf(0), 2);
    }

    @Sentence(of = "Promise 2", says = "`hue`: 0 to 7")
    static void gapOfHues0And7() {
        PennantRopes x = new PennantRopes();
        for (int hue = 0; hue < 8; hue++) {
            Check.same("hue " + hue, x.gap(hue, 20 - hue), hue + 2);
            Check.same("gap of " + hue, x.gapOf(hue), 20 - hue);
        }
    }

    @Sentence(of = "Promise 2", says = "`gap`: 2 to 20")
    static void gaps2To20() {
        PennantRopes x = new PennantRopes();
        for (int gap = 2; gap <= 20; gap++) {
            x.gap(5, gap);
            Check.same("gap " + gap, x.gapOf(5), gap);
        }
    }

    @Sentence(of = "Promise 2", says = "Returns the previous gap.")
    static void previousGap() {
        PennantRopes x = new PennantRopes();
        Check.same("the one at first", x.gap(6, 20), 8);
        Check.same("20", x.gap(6, 2), 20);
        Check.same("2", x.gap(6, 2), 2);
        Check.same("2 again", x.gap(6, 3), 2);
        x.undo();
        Check.same("behind undo", x.gap(6, 4), 2);
    }

    @Sentence(of = "Promise 2", says = "Throws `IndexOutOfBoundsException` if there is no such hue")
    static void gapWithoutHue() {
        PennantRopes x = new PennantRopes();
        Check.failsWith("hue", x, Check.INDEX, hue -> x.gap(hue, 2), -1, 8);
        Check.failsWith("a wrong gap of hue", x, Check.INDEX, hue -> x.gap(hue, 1), -1, 8);
    }

    @Sentence(of = "Promise 2", says = "Throws `IllegalArgumentException` if gap is out of range")
    static void gapOutOfRange() {
        PennantRopes x = Check.played("r9,a0");
        Check.failsWith("gap", x, Check.ARGUMENT, gap -> x.gap(1, gap), -1, 0, 1, 21);
        Check.failsWith("of a laid hue, gap", x, Check.ARGUMENT, gap -> x.gap(0, gap), 1, 21);
    }

    @Sentence(of = "Promise 2", says = "Throws `IllegalStateException` if it is laid on some rope")
    static void gapOfALaidHue() {
        for (int each = 0; each < 4; each++) {
            int rope = each;
            PennantRopes x = Check.played("r9,r9,r9,r9");
            x.lay(rope, 5, 6);
            Check.fails("laid on rope " + rope, x, Check.STATE, () -> x.gap(5, 8));
            Check.fails("laid on rope " + rope + ", the same gap", x, Check.STATE, () -> x.gap(5, 7));
            Check.same("another hue", x.gap(4, 8), 6);
            x.take(rope, 5);
            Check.same("taken off rope " + rope, x.gap(5, 8), 7);
            x.undo();
            x.undo();
            Check.fails("laid again by undo", x, Check.STATE, () -> x.gap(5, 8));
            x.stretch(rope, 6);
            Check.same("gone from rope " + rope, x.gap(5, 8), 7);
            x.undo();
            x.undo();
            x.drop(rope);
            Check.same("dropped with rope " + rope, x.gap(5, 8), 7);
        }
        PennantRopes two = Check.played("r9,h0,r9,h0");
        two.take(0, 7);
        Check.fails("laid on one of two", two, Check.STATE, () -> two.gap(7, 5));
        PennantRopes cut = Check.played("r9,h8");
        cut.cut(0, 8);
        Check.fails("on the rope that was cut off", cut, Check.STATE, () -> cut.gap(7, 5));
        cut.drop(1);
        Check.same("it is not on the part that was kept", cut.gap(7, 5), 9);
        PennantRopes text = Check.played("r9,h8,-h,g0");
        Check.same("taken off by a text", text.gap(7, 5), 9);
        Check.fails("laid by a text", text, Check.STATE, () -> text.gap(6, 5));
    }

    // ---- Promise 3: rope

    @Sentence(of = "Promise 3", says = "Makes a new rope, with free places.")
    static void newRopesAreFree() {
        PennantRopes x = Check.played("r2,a0,b1,r60,a0");
        x.drop(1);
        x.drop(0);
        x.rope(60);
        x.rope(2);
        Check.sameText("60 free places where others were", Check.look(x, 0), ".".repeat(60) + " ");
        Check.sameText("2 free places where others were", Check.look(x, 1), ".. ");
        x.lay(1, 7, 1);
        x.undo();
        x.undo();
        x.rope(1);
        Check.sameText("1 free place behind undo", Check.look(x, 1), ". ");
    }

    @Sentence(of = "Promise 3", says = "Undoable.")
    static void ropeIsUndone() {
        PennantRopes x = new PennantRopes();
        for (int length = 1; length < 5; length++) {
            int each = length;
            Check.undone("rope of " + each, x, () -> x.rope(each));
            x.rope(each);
        }
    }

    @Sentence(of = "Promise 3", says = "`length`: 1 to 60")
    static void lengths1To60() {
        PennantRopes x = new PennantRopes();
        for (int length = 1; length <= 60; length++) {
            x.rope(length);
            Check.same("length " + length, x.ropeOf(0, 0), length);
            Check.same("holes of " + length, x.ropeOf(0, 2), length);
            x.drop(0);
        }
    }

    @Sentence(of = "Promise 3", says = "Returns its number.")
    static void numberOfTheNewRope() {
        PennantRopes x = new PennantRopes();
        for (int rope = 0; rope < 4; rope++) {
            Check.same("rope " + rope, x.rope(5), rope);
        }
        x.drop(0);
        Check.same("behind three others", x.rope(6), 3);
        Check.same("its length", x.ropeOf(3, 0), 6);
        x.drop(0);
        x.drop(0);
        Check.same("behind two others", x.rope(7), 2);
    }

    @Sentence(of = "Promise 3", says = "Throws `IllegalArgumentException` if length is out of range")
    static void ropeOutOfRange() {
        PennantRopes x = new PennantRopes();
        Check.failsWith("length", x, Check.ARGUMENT, x::rope, -1, 0, 61);
        Check.play(x, "r1,r1,r1,r1");
        Check.failsWith("with 4 ropes, length", x, Check.ARGUMENT, x::rope, -1, 0, 61);
    }

    @Sentence(of = "Promise 3", says = "Throws `IllegalStateException` if there are 4")
    static void aFifthRope() {
        PennantRopes x = Check.played("r2,r1,r1");
        Check.same("the fourth one", x.rope(1), 3);
        for (int each = 1; each <= 60; each++) {
            int length = each;
            Check.fails("a fifth one of " + length, x, Check.STATE, () -> x.rope(length));
        }
        x.join(1, 2);
        Check.same("behind a join", x.rope(1), 3);
        x.drop(3);
        x.cut(0, 1);
        Check.fails("behind a cut", x, Check.STATE, () -> x.rope(1));
        x.undo();
        Check.same("behind undo", x.rope(1), 3);
    }

    // ---- Promise 4: drop

    @Sentence(of = "Promise 4", says = "Drops a rope.")
    static void firstMiddleAndLastAreDropped() {
        String[] due = {"b. b/c.. c/d... d", "a a/c.. c/d... d", "a a/b. b/d... d", "a a/b. b/c.. c"};
        for (int rope = 0; rope < 4; rope++) {
            PennantRopes x = Check.played("r1,a0,r2,b0,r3,c0,r4,d0");
            x.drop(rope);
            Check.sameText("without rope " + rope, Check.looks(x), due[rope]);
            Check.same("hues that are laid", x.count(3), 3);
        }
        PennantRopes one = Check.played("r1,a0");
        one.drop(0);
        Check.same("the only one", one.count(0), 0);
    }

    @Sentence(of = "Promise 4", says = "Undoable.")
    static void dropIsUndone() {
        PennantRopes x = Check.played("r1,a0,r2,b0,r3,c0,r4,d0");
        for (int each = 0; each < 4; each++) {
            int rope = each;
            Check.undone("drop of " + rope, x, () -> x.drop(rope));
            Check.sameText("all are there", Check.looks(x), "a a/b. b/c.. c/d... d");
        }
    }

    @Sentence(of = "Promise 4", says = "`rope`: its number")
    static void dropByEachNumber() {
        for (int ropes = 1; ropes <= 4; ropes++) {
            for (int rope = 0; rope < ropes; rope++) {
                PennantRopes x = new PennantRopes();
                for (int length = 1; length <= ropes; length++) {
                    x.rope(length);
                }
                Check.same("rope " + rope + " of " + ropes, x.drop(rope), ropes - 1);
            }
        }
    }

    @Sentence(of = "Promise 4", says = "Returns how many are left.")
    static void ropesThatAreLeft() {
        PennantRopes x = Check.played("r1,r1,r1,r1");
        for (int left = 3; left >= 0; left--) {
            Check.same("left", x.drop(0), left);
            Check.same("ropes", x.count(0), left);
        }
    }

    @Sentence(of = "Promise 4", says = "Throws `IndexOutOfBoundsException` if there is no such rope")
    static void dropWithoutRope() {
        PennantRopes x = new PennantRopes();
        Check.failsWith("no ropes, rope", x, Check.INDEX, x::drop, -1, 0);
        Check.play(x, "r1,r2,r3,r4");
        Check.failsWith("4 ropes, rope", x, Check.INDEX, x::drop, -1, 4);
        x.drop(1);
        Check.failsWith("3 ropes, rope", x, Check.INDEX, x::drop, -1, 3, 4);
    }

    // ---- Promise 5: lay

    @Sentence(of = "Promise 5", says = "Lays a hue.")
    static void laidOnOneRopeAlone() {
        PennantRopes x = Check.played("r4,r4,r4,r4");
        x.lay(1, 0, 1);
        Check.sameText("rope 1", Check.looks(x), ".... /.a.a a/.... /.... ");
        x.lay(3, 0, 0);
        Check.sameText("rope 3", Check.looks(x), ".... /.a.a a/.... /a.a. a");
        Check.same("layings", x.count(4), 2);
    }

    @Sentence(of = "Promise 5", says = "Undoable.")
    static void layIsUndone() {
        PennantRopes x = Check.played("r4,r9");
        Check.undone("lay", x, () -> x.lay(1, 7, 8));
        x.lay(1, 7, 8);
        Check.undone("a second hue", x, () -> x.lay(1, 0, 1));
        Check.same("layings", x.count(4), 1);
    }

    @Sentence(of = "Promise 5", says = "`rope`: its number")
    static void layOnEachRope() {
        PennantRopes x = Check.played("r1,r1,r1,r1");
        for (int rope = 0; rope < 4; rope++) {
            Check.same("rope " + rope, x.lay(rope, 7, 0), 1);
            Check.same("the hue there", x.place(rope, 0), 7);
        }
    }

    @Sentence(of = "Promise 5", says = "`hue`: 0 to 7")
    static void layEachHue() {
        for (int hue = 0; hue < 8; hue++) {
            PennantRopes x = Check.played("r1");
            Check.same("hue " + hue, x.lay(0, hue, 0), 1);
            Check.same("the hue there", x.place(0, 0), hue);
        }
    }

    @Sentence(of = "Promise 5", says = "`phase`: 0 to its gap less 1")
    static void layByTheFirstAndTheLastPhase() {
        PennantRopes x = Check.played("r60");
        for (int hue = 0; hue < 8; hue++) {
            x.lay(0, hue, 0);
            Check.same("phase 0 of " + hue, x.hueOf(0, hue, 0), 0);
            x.take(0, hue);
            x.lay(0, hue, hue + 1);
            Check.same("the last phase of " + hue, x.hueOf(0, hue, 0), hue + 1);
            x.take(0, hue);
        }
    }

    @Sentence(of = "Promise 5", says = "Returns how many places it takes.")
    static void placesThatALaidHueTakes() {
        for (int length = 1; length <= 60; length++) {
            PennantRopes x = new PennantRopes();
            x.rope(length);
            for (int hue = 0; hue < 8; hue++) {
                for (int phase = 0; phase < hue + 2 && phase < length; phase++) {
                    int places = 0;
                    for (int place = phase; place < length; place += hue + 2) {
                        places++;
                    }
                    Check.same("hue " + hue + " by " + phase + " on " + length, x.lay(0, hue, phase), places);
                    x.take(0, hue);
                }
            }
        }
    }

    @Sentence(of = "Promise 5", says = "Throws `IndexOutOfBoundsException` if there is no such rope or hue")
    static void layWithoutRopeOrHue() {
        PennantRopes x = new PennantRopes();
        Check.failsWith("no ropes, rope", x, Check.INDEX, rope -> x.lay(rope, 0, 0), -1, 0);
        Check.play(x, "r9,r9");
        Check.failsWith("rope", x, Check.INDEX, rope -> x.lay(rope, 0, 0), -1, 2);
        Check.failsWith("hue", x, Check.INDEX, hue -> x.lay(0, hue, 0), -1, 8);
        Check.failsWith("a wrong phase on rope", x, Check.INDEX, rope -> x.lay(rope, 0, 2), -1, 2);
        Check.failsWith("a wrong phase of hue", x, Check.INDEX, hue -> x.lay(0, hue, -1), -1, 8);
    }

    @Sentence(of = "Promise 5", says = "Throws `IllegalArgumentException` if phase is out of range")
    static void layByAWrongPhase() {
        PennantRopes x = Check.played("r60,h0,r1");
        Check.failsWith("hue 0, phase", x, Check.ARGUMENT, phase -> x.lay(0, 0, phase), -1, 2);
        Check.failsWith("a laid hue, phase", x, Check.ARGUMENT, phase -> x.lay(0, 7, phase), -1, 9);
        Check.failsWith("beyond the rope, phase", x, Check.ARGUMENT, phase -> x.lay(1, 0, phase), -1, 2);
        x.gap(1, 20);
        Check.failsWith("gap 20, phase", x, Check.ARGUMENT, phase -> x.lay(0, 1, phase), -1, 20);
    }

    @Sentence(of = "Promise 5", says = "Throws `IllegalStateException` if it cannot be laid")
    static void layForEachReason() {
        PennantRopes x = Check.played("r4,h0,g3");
        Check.fails("1: laid already", x, Check.STATE, () -> x.lay(0, 7, 1));
        Check.fails("2: the phase is the length", x, Check.STATE, () -> x.lay(0, 5, 4));
        Check.fails("3: the first place is taken", x, Check.STATE, () -> x.lay(0, 5, 0));
        Check.fails("3: the last place is taken", x, Check.STATE, () -> x.lay(0, 0, 1));
        Check.same("none: the place between", x.lay(0, 2, 2), 1);
        Check.fails("3: the last place is taken still", x, Check.STATE, () -> x.lay(0, 0, 1));
        Check.same("none: the last hole", x.lay(0, 3, 1), 1);
        for (int each = 0; each < 8; each++) {
            int hue = each;
            Check.fails("a full rope, hue " + hue, x, Check.STATE, () -> x.lay(0, hue, 0));
        }
        Check.same("layings", x.count(4), 4);
    }

    // ---- Promise 6: take

    @Sentence(of = "Promise 6", says = "Takes a hue off a rope.")
    static void takenOffOneRopeAlone() {
        PennantRopes x = Check.played("r6,c1,a0,d3,r6,d4,a1");
        x.take(0, 0);
        Check.sameText("the one between", Check.looks(x), ".c.d.c cd/.a.ada da");
        x.take(0, 2);
        Check.sameText("the first one", Check.looks(x), "...d.. d/.a.ada da");
        x.take(0, 3);
        Check.sameText("the only one", Check.looks(x), "...... /.a.ada da");
        x.take(1, 0);
        Check.sameText("the last one", Check.looks(x), "...... /....d. d");
        Check.same("layings stay", x.count(4), 5);
        Check.same("it can be laid again", x.lay(1, 0, 1), 3);
    }

    @Sentence(of = "Promise 6", says = "Undoable.")
    static void takeIsUndone() {
        PennantRopes x = Check.played("r6,c1,a0,d3");
        Check.undone("the first one", x, () -> x.take(0, 2));
        Check.undone("the one between", x, () -> x.take(0, 0));
        Check.undone("the last one", x, () -> x.take(0, 3));
        Check.sameText("all are there", Check.look(x, 0), "acadac cad");
    }

    @Sentence(of = "Promise 6", says = "`rope`: its number")
    static void takeOffEachRope() {
        PennantRopes x = Check.played("r1,h0,r1,h0,r1,h0,r1,h0");
        for (int rope = 0; rope < 4; rope++) {
            Check.same("rope " + rope, x.take(rope, 7), 1);
            Check.same("hues of rope " + rope, x.ropeOf(rope, 1), 0);
            Check.same("hues that are laid", x.count(3), rope < 3 ? 1 : 0);
        }
    }

    @Sentence(of = "Promise 6", says = "`hue`: 0 to 7")
    static void takeEachHue() {
        for (int hue = 0; hue < 8; hue++) {
            PennantRopes x = Check.played("r1");
            x.lay(0, hue, 0);
            Check.same("hue " + hue, x.take(0, hue), 1);
            Check.sameText("rope", Check.look(x, 0), ". ");
        }
    }

    @Sentence(of = "Promise 6", says = "Returns how many places it took.")
    static void placesThatATakenHueTook() {
        PennantRopes x = Check.played("r60,a0,c1,r2,h1");
        Check.same("every second one of 60", x.take(0, 0), 30);
        Check.same("every fourth one of 60", x.take(0, 2), 15);
        Check.same("one", x.take(1, 7), 1);
        x.lay(0, 6, 7);
        Check.same("the last one behind 52", x.take(0, 6), 7);
        x.lay(0, 6, 3);
        Check.same("the last one is place 59", x.take(0, 6), 8);
    }

    @Sentence(of = "Promise 6", says = "Throws `IndexOutOfBoundsException` if there is no such rope or hue")
    static void takeWithoutRopeOrHue() {
        PennantRopes x = new PennantRopes();
        Check.failsWith("no ropes, rope", x, Check.INDEX, rope -> x.take(rope, 0), -1, 0);
        Check.play(x, "r9,a0,r9,a0");
        Check.failsWith("rope", x, Check.INDEX, rope -> x.take(rope, 0), -1, 2);
        Check.failsWith("hue", x, Check.INDEX, hue -> x.take(0, hue), -1, 8);
    }

    @Sentence(of = "Promise 6", says = "Throws `IllegalStateException` if it is not laid there")
    static void takeWhatIsNotLaid() {
        PennantRopes x = Check.played("r9,h8,r9,g0");
        Check.fails("a free rope's", x, Check.STATE, () -> x.take(0, 0));
        Check.fails("on the other rope", x, Check.STATE, () -> x.take(0, 6));
        Check.fails("on the other rope too", x, Check.STATE, () -> x.take(1, 7));
        x.take(1, 6);
        Check.fails("taken off already", x, Check.STATE, () -> x.take(1, 6));
        x.stretch(0, 8);
        Check.fails("gone", x, Check.STATE, () -> x.take(0, 7));
    }
}
