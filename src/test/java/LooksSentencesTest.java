/** The sentences of the promises 18 to 23, each with a test of its own. */
final class LooksSentencesTest {
    public static void main(String[] args) {
        Check.sentences(LooksSentencesTest.class);
    }

    /** Ropes with no hue, with holes at both ends, without a hole, and of one place. */
    private static PennantRopes four() {
        PennantRopes x = Check.played("r60,r9,f2,e4,r4,a1,c0,h2,r1,g0");
        Check.sameText("rope 1", Check.look(x, 1), "..f.e.... fe");
        Check.sameText("rope 2", Check.look(x, 2), "caha ach");
        return x;
    }

    // ---- Promise 18: place

    @Sentence(of = "Promise 18", says = "Returns the hue of a place.")
    static void huesOfAllPlaces() {
        PennantRopes x = four();
        int[] due = {2, 0, 7, 0};
        for (int place = 0; place < 4; place++) {
            Check.same("place " + place, x.place(2, place), due[place]);
        }
        Check.changesNothing("place", x, () -> x.place(2, 3));
    }

    @Sentence(of = "Promise 18", says = "`rope`: its number")
    static void placesOfEachRope() {
        PennantRopes x = four();
        int[] due = {-1, -1, 2, 6};
        for (int rope = 0; rope < 4; rope++) {
            Check.same("place 0 of rope " + rope, x.place(rope, 0), due[rope]);
        }
    }

    @Sentence(of = "Promise 18", says = "`place`: 0 to its length less 1")
    static void theFirstAndTheLastPlace() {
        for (int length = 1; length <= 60; length++) {
            PennantRopes x = new PennantRopes();
            x.gap(0, 20);
            x.rope(length);
            x.lay(0, 0, (length - 1) % 20);
            Check.same("the last place of " + length, x.place(0, length - 1), 0);
            Check.same("the first place of " + length, x.place(0, 0), length % 20 == 1 ? 0 : -1);
        }
    }

    @Sentence(of = "Promise 18", says = "Returns the hue; NONE if the place is free.")
    static void freePlacesHaveNone() {
        PennantRopes x = Check.played("r3,a0");
        Check.same("taken", x.place(0, 0), 0);
        Check.same("free", x.place(0, 1), PennantRopes.NONE);
        x.take(0, 0);
        Check.same("free again", x.place(0, 0), PennantRopes.NONE);
        x.stretch(0, 60);
        Check.same("new and free", x.place(0, 59), PennantRopes.NONE);
    }

    @Sentence(of = "Promise 18", says = "Throws `IndexOutOfBoundsException` if there is no such rope or place")
    static void placeWithoutRopeOrPlace() {
        PennantRopes none = new PennantRopes();
        Check.failsWith("no ropes, rope", none, Check.INDEX, rope -> none.place(rope, 0), -1, 0);
        PennantRopes x = four();
        Check.failsWith("rope", x, Check.INDEX, rope -> x.place(rope, 0), -1, 4);
        Check.failsWith("of 60, place", x, Check.INDEX, place -> x.place(0, place), -1, 60);
        Check.failsWith("of 9, place", x, Check.INDEX, place -> x.place(1, place), -1, 9, 59);
        Check.failsWith("of 1, place", x, Check.INDEX, place -> x.place(3, place), -1, 1);
        x.stretch(0, 5);
        Check.failsWith("made shorter, place", x, Check.INDEX, place -> x.place(0, place), 5, 59);
    }

    // ---- Promise 19: ropeOf

    private static void ropeNumbers(PennantRopes x, int what, int... due) {
        for (int rope = 0; rope < due.length; rope++) {
            Check.same("number " + what + " of rope " + rope, x.ropeOf(rope, what), due[rope]);
        }
    }

    @Sentence(of = "Promise 19", says = "`rope`: its number")
    static void numbersOfEachRope() {
        PennantRopes x = Check.played("r10,r11,r12,r13");
        ropeNumbers(x, 0, 10, 11, 12, 13);
        x.drop(1);
        ropeNumbers(x, 0, 10, 12, 13);
    }

    @Sentence(of = "Promise 19", says = "0: its length")
    static void lengthsOfRopes() {
        ropeNumbers(four(), 0, 60, 9, 4, 1);
    }

    @Sentence(of = "Promise 19", says = "1: its hues, how many")
    static void noneTo8Hues() {
        ropeNumbers(four(), 1, 0, 2, 3, 1);
        PennantRopes x = Check.played("r8");
        for (int hue = 0; hue < 8; hue++) {
            Check.same("hues", x.ropeOf(0, 1), hue);
            x.gap(hue, 20);
            x.lay(0, hue, hue);
        }
        Check.same("all hues", x.ropeOf(0, 1), 8);
    }

    @Sentence(of = "Promise 19", says = "2: its holes")
    static void holesOfFreeAndFullRopes() {
        ropeNumbers(four(), 2, 60, 7, 0, 0);
    }

    @Sentence(of = "Promise 19", says = "3: the first hole, NONE without one")
    static void theFirstHoleOnEachPlace() {
        ropeNumbers(four(), 3, 0, 0, -1, -1);
        PennantRopes x = Check.played("r8");
        for (int hue = 0; hue < 8; hue++) {
            Check.same("the first hole", x.ropeOf(0, 3), hue);
            x.gap(hue, 20);
            x.lay(0, hue, hue);
        }
        Check.same("without one", x.ropeOf(0, 3), PennantRopes.NONE);
        x.stretch(0, 9);
        Check.same("behind all hues", x.ropeOf(0, 3), 8);
    }

    @Sentence(of = "Promise 19", says = "4: the most holes side by side")
    static void holesAtBothEndsAndBetween() {
        ropeNumbers(four(), 4, 60, 4, 0, 0);
        Check.same("all at the end", Check.played("r7,h0").ropeOf(0, 4), 6);
        Check.same("all at the beginning", Check.played("r7,h6").ropeOf(0, 4), 6);
        Check.same("as many at both ends", Check.played("r7,h3").ropeOf(0, 4), 3);
        Check.same("between", Check.played("r7,h0,g6").ropeOf(0, 4), 5);
        Check.same("none beside another one", Check.played("r7,a0").ropeOf(0, 4), 1);
        Check.same("more behind than ahead", Check.played("r7,h2").ropeOf(0, 4), 4);
        Check.same("more ahead than behind", Check.played("r7,h4").ropeOf(0, 4), 4);
        Check.same("not over the end of the rope", Check.played("r8,h2,g5").ropeOf(0, 4), 2);
    }

    @Sentence(of = "Promise 19", says = "5: its period")
    static void periodsOfRopes() {
        ropeNumbers(four(), 5, 1, 42, 36, 8);
    }

    @Sentence(of = "Promise 19", says = "Returns the number.")
    static void allNumbersOfARope() {
        PennantRopes x = four();
        int[] due = {9, 2, 7, 0, 4, 42};
        for (int what = 0; what < 6; what++) {
            int each = what;
            Check.same("number " + what, x.ropeOf(1, what), due[what]);
            Check.changesNothing("number " + what, x, () -> x.ropeOf(1, each));
        }
    }

    @Sentence(of = "Promise 19", says = "Returns something of a rope.")
    static void ropesDoNotMix() {
        PennantRopes x = Check.played("r3,a0,r3,h1");
        ropeNumbers(x, 2, 1, 2);
        ropeNumbers(x, 3, 1, 0);
        ropeNumbers(x, 5, 2, 9);
    }

    @Sentence(of = "Promise 19", says = "Throws `IndexOutOfBoundsException` if there is no such rope")
    static void numberWithoutRope() {
        PennantRopes none = new PennantRopes();
        Check.failsWith("no ropes, rope", none, Check.INDEX, rope -> none.ropeOf(rope, 0), -1, 0);
        PennantRopes x = four();
        Check.failsWith("rope", x, Check.INDEX, rope -> x.ropeOf(rope, 5), -1, 4);
        Check.failsWith("number 6 of rope", x, Check.INDEX, rope -> x.ropeOf(rope, 6), -1, 4);
        x.drop(0);
        Check.fails("rope 3", x, Check.INDEX, () -> x.ropeOf(3, 0));
    }

    @Sentence(of = "Promise 19", says = "Throws `IllegalArgumentException` if what is not 0 to 5")
    static void noSuchNumberOfARope() {
        PennantRopes x = four();
        Check.failsWith("what", x, Check.ARGUMENT, what -> x.ropeOf(3, what), -1, 6, 7);
    }

    // ---- Promise 20: hueOf

    private static void hueNumbers(PennantRopes x, int rope, int what, int... due) {
        for (int hue = 0; hue < 8; hue++) {
            Check.same("number " + what + " of hue " + hue + " on rope " + rope, x.hueOf(rope, hue, what), due[hue]);
        }
    }

    @Sentence(of = "Promise 20", says = "`rope`: its number")
    static void aHueOnEachRope() {
        PennantRopes x = Check.played("r9,h3,r9,h4,r9,h5,r9,h6");
        for (int rope = 0; rope < 4; rope++) {
            Check.same("phase on rope " + rope, x.hueOf(rope, 7, 0), 3 + rope);
        }
    }

    @Sentence(of = "Promise 20", says = "`hue`: 0 to 7")
    static void eachHueOnARope() {
        PennantRopes x = Check.played("r8");
        for (int hue = 0; hue < 8; hue++) {
            x.gap(hue, 20);
            x.lay(0, hue, 7 - hue);
        }
        hueNumbers(x, 0, 0, 7, 6, 5, 4, 3, 2, 1, 0);
    }

    @Sentence(of = "Promise 20", says = "0: its phase")
    static void phasesOfHues() {
        PennantRopes x = four();
        hueNumbers(x, 0, 0, -1, -1, -1, -1, -1, -1, -1, -1);
        hueNumbers(x, 1, 0, -1, -1, -1, -1, 4, 2, -1, -1);
        hueNumbers(x, 2, 0, 1, -1, 0, -1, -1, -1, -1, 2);
        x.turn(1);
        hueNumbers(x, 1, 0, -1, -1, -1, -1, 4, 6, -1, -1);
        PennantRopes last = Check.played("r9,h8");
        Check.same("the gap less 1", last.hueOf(0, 7, 0), 8);
    }

    @Sentence(of = "Promise 20", says = "1: how many places it takes")
    static void placesOfHues() {
        PennantRopes x = four();
        hueNumbers(x, 1, 1, -1, -1, -1, -1, 1, 1, -1, -1);
        hueNumbers(x, 2, 1, 2, -1, 1, -1, -1, -1, -1, 1);
        x.stretch(1, 11);
        hueNumbers(x, 1, 1, -1, -1, -1, -1, 2, 2, -1, -1);
        x.lay(0, 0, 1);
        Check.same("half of 60", x.hueOf(0, 0, 1), 30);
    }

    @Sentence(of = "Promise 20", says = "2: the last one of these")
    static void lastPlacesOfHues() {
        PennantRopes x = four();
        hueNumbers(x, 1, 2, -1, -1, -1, -1, 4, 2, -1, -1);
        hueNumbers(x, 2, 2, 3, -1, 0, -1, -1, -1, -1, 2);
        x.stretch(1, 11);
        hueNumbers(x, 1, 2, -1, -1, -1, -1, 10, 9, -1, -1);
    }

    @Sentence(of = "Promise 20", says = "3: its place in the order of the hues, from 0")
    static void placesInTheOrder() {
        PennantRopes x = four();
        hueNumbers(x, 1, 3, -1, -1, -1, -1, 1, 0, -1, -1);
        hueNumbers(x, 2, 3, 0, -1, 1, -1, -1, -1, -1, 2);
        x.take(2, 0);
        hueNumbers(x, 2, 3, -1, -1, 0, -1, -1, -1, -1, 1);
        x.lay(2, 0, 1);
        hueNumbers(x, 2, 3, 2, -1, 0, -1, -1, -1, -1, 1);
    }

    @Sentence(of = "Promise 20", says = "Returns something of a hue on a rope.")
    static void oneHueOnTwoRopes() {
        PennantRopes x = Check.played("r9,h8,g1,r20,h1");
        int[][] due = {{8, 1, 8, 0}, {1, 3, 19, 0}};
        for (int rope = 0; rope < 2; rope++) {
            for (int what = 0; what < 4; what++) {
                int on = rope;
                int each = what;
                Check.same("rope " + rope + ", number " + what, x.hueOf(rope, 7, what), due[rope][what]);
                Check.changesNothing("number " + what, x, () -> x.hueOf(on, 7, each));
            }
        }
    }

    @Sentence(of = "Promise 20", says = "Returns the number; NONE if it is not laid there.")
    static void numbersOfAHueThatIsNotLaid() {
        PennantRopes x = Check.played("r9,h8,r9,g7");
        for (int what = 0; what < 4; what++) {
            Check.same("number " + what + " of a hue of the other rope", x.hueOf(0, 6, what), PennantRopes.NONE);
            Check.same("number " + what + " of a hue of no rope", x.hueOf(0, 0, what), PennantRopes.NONE);
        }
        x.stretch(0, 8);
        x.take(1, 6);
        for (int what = 0; what < 4; what++) {
            Check.same("number " + what + " of a hue that is gone", x.hueOf(0, 7, what), PennantRopes.NONE);
            Check.same("number " + what + " of a hue that is taken off", x.hueOf(1, 6, what), PennantRopes.NONE);
        }
    }

    @Sentence(of = "Promise 20", says = "Throws `IndexOutOfBoundsException` if there is no such rope or hue")
    static void hueOfWithoutRopeOrHue() {
        PennantRopes none = new PennantRopes();
        Check.failsWith("no ropes, rope", none, Check.INDEX, rope -> none.hueOf(rope, 0, 0), -1, 0);
        PennantRopes x = four();
        Check.failsWith("rope", x, Check.INDEX, rope -> x.hueOf(rope, 0, 3), -1, 4);
        Check.failsWith("hue", x, Check.INDEX, hue -> x.hueOf(3, hue, 3), -1, 8);
        Check.failsWith("number 4 of rope", x, Check.INDEX, rope -> x.hueOf(rope, 0, 4), -1, 4);
        Check.failsWith("number 4 of hue", x, Check.INDEX, hue -> x.hueOf(0, hue, 4), -1, 8);
    }

    @Sentence(of = "Promise 20", says = "Throws `IllegalArgumentException` if what is not 0 to 3")
    static void noSuchNumberOfAHue() {
        PennantRopes x = four();
        Check.failsWith("of a laid hue, what", x, Check.ARGUMENT, what -> x.hueOf(2, 0, what), -1, 4);
        Check.failsWith("of a hue that is not laid, what", x, Check.ARGUMENT, what -> x.hueOf(0, 0, what), -1, 4);
    }

    // ---- Promise 21: gapOf

    @Sentence(of = "Promise 21", says = "Returns the gap of a hue.")
    static void gapsAsTheyWereChanged() {
        PennantRopes x = new PennantRopes();
        for (int gap = 2; gap <= 20; gap++) {
            x.gap(4, gap);
            Check.same("gap", x.gapOf(4), gap);
        }
        Check.changesNothing("gapOf", x, () -> x.gapOf(4));
    }

    @Sentence(of = "Promise 21", says = "`hue`: 0 to 7")
    static void gapsOfAllHues() {
        PennantRopes x = new PennantRopes();
        for (int hue = 0; hue < 8; hue++) {
            Check.same("gap of " + hue, x.gapOf(hue), hue + 2);
        }
    }

    @Sentence(of = "Promise 21", says = "Returns its gap.")
    static void gapOfALaidHue() {
        PennantRopes x = new PennantRopes();
        x.gap(7, 20);
        x.rope(1);
        x.lay(0, 7, 0);
        Check.same("a laid hue", x.gapOf(7), 20);
        x.undo();
        x.undo();
        x.undo();
        Check.same("behind undo", x.gapOf(7), 9);
    }

    @Sentence(of = "Promise 21", says = "Throws `IndexOutOfBoundsException` if there is no such hue")
    static void gapOfNoHue() {
        PennantRopes x = new PennantRopes();
        Check.failsWith("hue", x, Check.INDEX, x::gapOf, -1, 8);
    }

    // ---- Promise 22: count

    private static void counts(String when, PennantRopes x, int what, int due) {
        Check.same("count " + what + " " + when, x.count(what), due);
    }

    @Sentence(of = "Promise 22", says = "0: ropes")
    static void noneTo4Ropes() {
        PennantRopes x = new PennantRopes();
        for (int ropes = 0; ropes < 4; ropes++) {
            counts("of new ropes", x, 0, ropes);
            x.rope(2);
        }
        counts("of all", x, 0, 4);
        x.join(0, 1);
        counts("behind a join", x, 0, 3);
        x.cut(0, 1);
        counts("behind a cut", x, 0, 4);
        x.drop(0);
        counts("behind a drop", x, 0, 3);
    }

    @Sentence(of = "Promise 22", says = "1: places of all ropes")
    static void noneTo240Places() {
        PennantRopes x = new PennantRopes();
        counts("without ropes", x, 1, 0);
        x.rope(1);
        counts("of one", x, 1, 1);
        Check.play(x, "a0,r60,r60,r60");
        counts("taken ones too", x, 1, 181);
        x.stretch(0, 60);
        counts("the most", x, 1, 240);
        x.drop(1);
        counts("less one rope", x, 1, 180);
        x.cut(0, 59);
        counts("as many behind a cut", x, 1, 180);
    }

    @Sentence(of = "Promise 22", says = "2: holes of all")
    static void noneTo240Holes() {
        PennantRopes x = new PennantRopes();
        counts("without ropes", x, 2, 0);
        Check.play(x, "r60,r60,r60,r60");
        counts("the most", x, 2, 240);
        x.lay(0, 0, 1);
        counts("less 30", x, 2, 210);
        x.lay(3, 0, 1);
        counts("less 60", x, 2, 180);
        x.take(0, 0);
        counts("less 30 again", x, 2, 210);
        PennantRopes full = Check.played("r1,a0,r2,h0,g1");
        counts("of full ropes", full, 2, 0);
    }

    @Sentence(of = "Promise 22", says = "3: hues that are laid on some rope")
    static void noneTo8HuesThatAreLaid() {
        PennantRopes x = Check.played("r60,r8,r1");
        counts("of free ropes", x, 3, 0);
        for (int hue = 0; hue < 8; hue++) {
            x.gap(hue, 20);
            x.lay(1, hue, hue);
            counts("on rope 1", x, 3, hue + 1);
        }
        x.lay(0, 7, 0);
        x.lay(2, 7, 0);
        counts("of hues on some ropes, each once", x, 3, 8);
        x.take(1, 7);
        counts("it is on others still", x, 3, 8);
        x.drop(2);
        counts("it is on one still", x, 3, 8);
        x.take(0, 7);
        counts("it is on none", x, 3, 7);
        x.drop(1);
        counts("all are dropped", x, 3, 0);
    }

    @Sentence(of = "Promise 22", says = "4: layings so far (by lay() and by texts)")
    static void layingsByLayAndByTexts() {
        PennantRopes x = Check.played("r20,r20");
        counts("at first", x, 4, 0);
        x.lay(0, 7, 8);
        counts("by lay", x, 4, 1);
        Check.play(x, "h0,-h,h1");
        counts("by a text", x, 4, 3);
        Check.fails("a laying that is refused", x, Check.STATE, () -> x.lay(0, 7, 0));
        Check.play(x, "h0");
        counts("less the refused ones", x, 4, 3);
        x.take(0, 7);
        x.turn(1);
        x.cut(1, 5);
        x.join(0, 2);
        x.drop(0);
        counts("other calls count none", x, 4, 3);
        x.keep();
        x.lay(0, 0, 1);
        counts("one more", x, 4, 4);
        x.restore();
        counts("restored", x, 4, 3);
        x.undo();
        counts("undone", x, 4, 4);
    }

    @Sentence(of = "Promise 22", says = "5: joins so far")
    static void joinsThatWereDone() {
        PennantRopes x = Check.played("r9,h0,r60,r1,r1");
        counts("at first", x, 5, 0);
        Check.fails("2", x, Check.STATE, () -> x.join(0, 1));
        Check.fails("1", x, Check.STATE, () -> x.join(0, 0));
        counts("refused", x, 5, 0);
        x.join(0, 3);
        counts("one", x, 5, 1);
        x.join(0, 2);
        counts("two", x, 5, 2);
        x.drop(0);
        counts("dropped", x, 5, 2);
        x.undo();
        x.undo();
        counts("undone", x, 5, 1);
    }

    @Sentence(of = "Promise 22", says = "6: cuts so far")
    static void cutsThatWereDone() {
        PennantRopes x = Check.played("r9,h0,r60");
        counts("at first", x, 6, 0);
        Check.fails("ahead of 0", x, Check.ARGUMENT, () -> x.cut(0, 0));
        counts("refused", x, 6, 0);
        x.cut(0, 1);
        x.cut(1, 1);
        counts("two", x, 6, 2);
        Check.fails("4 ropes", x, Check.STATE, () -> x.cut(2, 1));
        counts("refused", x, 6, 2);
        x.drop(3);
        counts("dropped", x, 6, 2);
        x.undo();
        x.undo();
        counts("undone", x, 6, 1);
    }

    @Sentence(of = "Promise 22", says = "7: saved states")
    static void noneTo6SavedStates() {
        PennantRopes x = new PennantRopes();
        for (int calls = 0; calls < 10; calls++) {
            counts("behind calls", x, 7, Math.min(calls, 6));
            x.gap(0, 10 + calls);
        }
        x.keep();
        x.append('r');
        x.clearBuffer();
        counts("behind calls that are not undoable", x, 7, 6);
        x.undo();
        counts("behind undo", x, 7, 5);
        x.restore();
        counts("behind restore", x, 7, 6);
    }

    @Sentence(of = "Promise 22", says = "Returns a number.")
    static void countingChangesNothing() {
        PennantRopes x = Check.played("r9,h0,r2");
        for (int what = 0; what < 8; what++) {
            int each = what;
            Check.changesNothing("count " + what, x, () -> x.count(each));
        }
    }

    @Sentence(of = "Promise 22", says = "Returns the number.")
    static void allNumbers() {
        PennantRopes x = Check.played("r9,h0,g1,r2");
        x.cut(0, 5);
        x.cut(1, 1);
        x.join(0, 2);
        int[] due = {3, 11, 9, 2, 2, 1, 2, 4};
        for (int what = 0; what < 8; what++) {
            counts("of all", x, what, due[what]);
        }
    }

    @Sentence(of = "Promise 22", says = "Throws `IllegalArgumentException` if what is not 0 to 7")
    static void noSuchNumber() {
        PennantRopes x = new PennantRopes();
        Check.failsWith("what", x, Check.ARGUMENT, x::count, -1, 8, 9);
    }

    // ---- Promise 23: refusal

    @Sentence(of = "Promise 23", says = "Tells why a hue cannot be laid.")
    static void asLayDoes() {
        PennantRopes x = Check.played("r12,f5,c0,d2,r4,h0");
        for (int each = 0; each < 2; each++) {
            int rope = each;
            for (int one = 0; one < 8; one++) {
                int hue = one;
                for (int first = 0; first < hue + 2; first++) {
                    int phase = first;
                    String what = hue + " by " + phase + " on " + rope;
                    Check.changesNothing(what, x, () -> x.refusal(rope, hue, phase));
                    if (x.refusal(rope, hue, phase) == 0) {
                        x.lay(rope, hue, phase);
                        Check.same("then it is laid, " + what, x.refusal(rope, hue, phase), 1);
                        x.undo();
                    } else {
                        Check.fails(what, x, Check.STATE, () -> x.lay(rope, hue, phase));
                    }
                }
            }
        }
    }

    @Sentence(of = "Promise 23", says = "`rope`: its number")
    static void refusalOnEachRope() {
        PennantRopes x = Check.played("r1,g0,r1,h0,r1,r9");
        int[] due = {3, 1, 0, 0};
        for (int rope = 0; rope < 4; rope++) {
            Check.same("rope " + rope, x.refusal(rope, 7, 0), due[rope]);
        }
    }

    @Sentence(of = "Promise 23", says = "`hue`: 0 to 7")
    static void refusalOfEachHue() {
        PennantRopes x = Check.played("r5,h2");
        int[] due = {3, 0, 0, 0, 0, 0, 0, 1};
        for (int hue = 0; hue < 8; hue++) {
            Check.same("hue " + hue, x.refusal(0, hue, 0), due[hue]);
        }
    }

    @Sentence(of = "Promise 23", says = "`phase`: 0 to its gap less 1")
    static void refusalOfEachPhase() {
        PennantRopes x = Check.played("r5,g2");
        int[] due = {0, 0, 3, 0, 0, 2, 2, 2, 2};
        for (int phase = 0; phase < 9; phase++) {
            Check.same("phase " + phase, x.refusal(0, 7, phase), due[phase]);
        }
        x.gap(7, 20);
        Check.same("phase 19", x.refusal(0, 7, 19), 2);
        x.stretch(0, 20);
        Check.same("phase 19 of 20 places", x.refusal(0, 7, 19), 0);
    }

    @Sentence(of = "Promise 23", says = "Returns the reason, 1 to 3")
    static void reasons1To3() {
        PennantRopes x = Check.played("r4,h0,g3");
        Check.same("1", x.refusal(0, 7, 1), 1);
        Check.same("1 of 1 and 2", x.refusal(0, 7, 4), 1);
        Check.same("1 of 1 and 3", x.refusal(0, 7, 3), 1);
        Check.same("2", x.refusal(0, 5, 4), 2);
        Check.same("3", x.refusal(0, 5, 3), 3);
    }

    @Sentence(of = "Promise 23", says = "0 if it can be laid.")
    static void noReason() {
        PennantRopes x = Check.played("r4,h0,g3");
        Check.same("phase 1", x.refusal(0, 5, 1), 0);
        Check.same("phase 2", x.refusal(0, 5, 2), 0);
        PennantRopes one = Check.played("r1");
        Check.same("one place", one.refusal(0, 0, 0), 0);
    }

    @Sentence(of = "Promise 23", says = "Throws `IndexOutOfBoundsException` if there is no such rope or hue")
    static void refusalWithoutRopeOrHue() {
        PennantRopes none = new PennantRopes();
        Check.failsWith("no ropes, rope", none, Check.INDEX, rope -> none.refusal(rope, 0, 0), -1, 0);
        PennantRopes x = four();
        Check.failsWith("rope", x, Check.INDEX, rope -> x.refusal(rope, 0, 0), -1, 4);
        Check.failsWith("hue", x, Check.INDEX, hue -> x.refusal(0, hue, 0), -1, 8);
        Check.failsWith("a wrong phase on rope", x, Check.INDEX, rope -> x.refusal(rope, 0, 2), -1, 4);
        Check.failsWith("a wrong phase of hue", x, Check.INDEX, hue -> x.refusal(0, hue, -1), -1, 8);
    }

    @Sentence(of = "Promise 23", says = "Throws `IllegalArgumentException` if phase is out of range")
    static void refusalOfAWrongPhase() {
        PennantRopes x = Check.played("r60,h0,r1");
        Check.failsWith("hue 0, phase", x, Check.ARGUMENT, phase -> x.refusal(0, 0, phase), -1, 2);
        Check.failsWith("a laid hue, phase", x, Check.ARGUMENT, phase -> x.refusal(0, 7, phase), -1, 9);
        Check.failsWith("beyond the rope, phase", x, Check.ARGUMENT, phase -> x.refusal(1, 0, phase), -1, 2);
        x.gap(0, 20);
        Check.failsWith("gap 20, phase", x, Check.ARGUMENT, phase -> x.refusal(0, 0, phase), -1, 20);
    }
}
