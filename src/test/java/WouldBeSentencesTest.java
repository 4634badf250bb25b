/** The sentences of the promises 24 to 31, each with a test of its own. */
final class WouldBeSentencesTest {
    public static void main(String[] args) {
        Check.sentences(WouldBeSentencesTest.class);
    }

    // ---- Promise 24: meeting; promise 25: walked

    /** Looks for the place among all places; two hues that meet do so below 400. */
    private static int sought(int gap, int phase, int otherGap, int otherPhase) {
        for (int place = 0; place < 400; place++) {
            if (place % gap == phase && place % otherGap == otherPhase) {
                return place;
            }
        }
        return -1;
    }

    @Sentence(of = "Promise 24", says = "Tells where two hues meet first on an endless rope.")
    static void meetingBeyond60Places() {
        PennantRopes x = new PennantRopes();
        x.gap(0, 19);
        x.gap(1, 20);
        Check.same("the last place of all", x.meeting(0, 18, 1, 19), 379);
        Check.same("the last place of all, the other way", x.meeting(1, 19, 0, 18), 379);
        Check.same("the first place of all", x.meeting(0, 0, 1, 0), 0);
        Check.same("place 60", x.meeting(0, 3, 1, 0), 60);
        Check.changesNothing("meeting", x, () -> x.meeting(0, 3, 1, 0));
    }

    @Sentence(of = "Promise 24", says = "`hue`: 0 to 7")
    static void meetingOfEachHue() {
        PennantRopes x = new PennantRopes();
        for (int hue = 0; hue < 8; hue++) {
            int gap = hue + 2;
            Check.same("hue " + hue, x.meeting(hue, gap - 1, 1, 2), sought(gap, gap - 1, 3, 2));
        }
    }

    @Sentence(of = "Promise 24", says = "`phase`: 0 to its gap less 1")
    static void meetingByEachPhase() {
        PennantRopes x = new PennantRopes();
        x.gap(0, 20);
        for (int phase = 0; phase < 20; phase++) {
            Check.same("phase " + phase, x.meeting(0, phase, 7, 8), sought(20, phase, 9, 8));
        }
        Check.same("the last phase and a lesser gap", x.meeting(0, 19, 1, 2), 59);
    }

    @Sentence(of = "Promise 24", says = "`other`: 0 to 7")
    static void meetingWithEachOther() {
        PennantRopes x = new PennantRopes();
        for (int other = 0; other < 8; other++) {
            int gap = other + 2;
            Check.same("other " + other, x.meeting(1, 2, other, gap - 1), sought(3, 2, gap, gap - 1));
            Check.same("hue " + other + " with itself", x.meeting(other, gap - 1, other, gap - 1), gap - 1);
        }
    }

    @Sentence(of = "Promise 24", says = "`otherPhase`: 0 to its gap less 1")
    static void meetingByEachOtherPhase() {
        PennantRopes x = new PennantRopes();
        x.gap(0, 20);
        for (int phase = 0; phase < 20; phase++) {
            Check.same("other phase " + phase, x.meeting(7, 8, 0, phase), sought(9, 8, 20, phase));
        }
        Check.same("the last phase and a lesser gap", x.meeting(1, 2, 0, 19), 59);
    }

    @Sentence(of = "Promise 24", says = "Returns the place; NONE if they never meet.")
    static void meetingOfAllGapsAndPhases() {
        for (int gap = 2; gap <= 20; gap++) {
            for (int otherGap = 2; otherGap <= 20; otherGap++) {
                PennantRopes x = new PennantRopes();
                x.gap(0, gap);
                x.gap(7, otherGap);
                for (int phase = 0; phase < gap; phase++) {
                    for (int otherPhase = 0; otherPhase < otherGap; otherPhase++) {
                        String what = gap + " from " + phase + ", " + otherGap + " from " + otherPhase;
                        Check.same(what, x.meeting(0, phase, 7, otherPhase), sought(gap, phase, otherGap, otherPhase));
                    }
                }
            }
        }
    }

    @Sentence(of = "Promise 24", says = "Throws `IndexOutOfBoundsException` if there is no such hue")
    static void meetingWithoutHue() {
        PennantRopes x = new PennantRopes();
        Check.failsWith("hue", x, Check.INDEX, hue -> x.meeting(hue, 0, 0, 0), -1, 8);
        Check.failsWith("other", x, Check.INDEX, other -> x.meeting(0, 0, other, 0), -1, 8);
        Check.failsWith("both", x, Check.INDEX, both -> x.meeting(both, 0, both, 0), -1, 8);
        Check.failsWith("with wrong phases, hue", x, Check.INDEX, hue -> x.meeting(hue, -1, 0, 2), -1, 8);
        Check.failsWith("with wrong phases, other", x, Check.INDEX, other -> x.meeting(0, 2, other, -1), -1, 8);
    }

    @Sentence(of = "Promise 24", says = "Throws `IllegalArgumentException` if a phase is out of range")
    static void meetingByWrongPhases() {
        PennantRopes x = new PennantRopes();
        Check.failsWith("phase", x, Check.ARGUMENT, phase -> x.meeting(0, phase, 7, 0), -1, 2, 8);
        Check.failsWith("other phase", x, Check.ARGUMENT, phase -> x.meeting(7, 0, 0, phase), -1, 2, 8);
        Check.failsWith("both", x, Check.ARGUMENT, phase -> x.meeting(7, phase, 7, phase), -1, 9);
        x.gap(0, 20);
        Check.failsWith("phase with gap 20", x, Check.ARGUMENT, phase -> x.meeting(0, phase, 7, 0), -1, 20);
        Check.failsWith("other phase with gap 20", x, Check.ARGUMENT, phase -> x.meeting(7, 0, 0, phase), -1, 20);
    }

    @Sentence(of = "Promise 25", says = "Tells the same as meeting(), found by going along both hues from place to place, up to 800 places.")
    static void walkedTellsTheSameAsMeeting() {
        for (int gap = 2; gap <= 20; gap++) {
            for (int otherGap = 2; otherGap <= 20; otherGap++) {
                PennantRopes x = new PennantRopes();
                x.gap(0, gap);
                x.gap(7, otherGap);
                for (int phase = 0; phase < gap; phase++) {
                    for (int otherPhase = 0; otherPhase < otherGap; otherPhase++) {
                        String what = gap + " from " + phase + ", " + otherGap + " from " + otherPhase;
                        Check.same(what, x.walked(0, phase, 7, otherPhase), x.meeting(0, phase, 7, otherPhase));
                    }
                }
            }
        }
        PennantRopes y = new PennantRopes();
        Check.changesNothing("walked", y, () -> y.walked(0, 1, 1, 2));
    }

    @Sentence(of = "Promise 25", says = "`hue`: 0 to 7")
    static void walkedOfEachHue() {
        PennantRopes x = new PennantRopes();
        for (int hue = 0; hue < 8; hue++) {
            int gap = hue + 2;
            Check.same("hue " + hue, x.walked(hue, gap - 1, 1, 2), sought(gap, gap - 1, 3, 2));
        }
    }

    @Sentence(of = "Promise 25", says = "`phase`: 0 to its gap less 1")
    static void walkedByEachPhase() {
        PennantRopes x = new PennantRopes();
        x.gap(0, 20);
        for (int phase = 0; phase < 20; phase++) {
            Check.same("phase " + phase, x.walked(0, phase, 7, 8), sought(20, phase, 9, 8));
        }
        Check.same("the last phase and a lesser gap", x.walked(0, 19, 1, 2), 59);
    }

    @Sentence(of = "Promise 25", says = "`other`: 0 to 7")
    static void walkedWithEachOther() {
        PennantRopes x = new PennantRopes();
        for (int other = 0; other < 8; other++) {
            int gap = other + 2;
            Check.same("other " + other, x.walked(1, 2, other, gap - 1), sought(3, 2, gap, gap - 1));
            Check.same("hue " + other + " with itself", x.walked(other, gap - 1, other, gap - 1), gap - 1);
        }
    }

    @Sentence(of = "Promise 25", says = "`otherPhase`: 0 to its gap less 1")
    static void walkedByEachOtherPhase() {
        PennantRopes x = new PennantRopes();
        x.gap(0, 20);
        for (int phase = 0; phase < 20; phase++) {
            Check.same("other phase " + phase, x.walked(7, 8, 0, phase), sought(9, 8, 20, phase));
        }
        Check.same("the last phase and a lesser gap", x.walked(1, 2, 0, 19), 59);
    }

    @Sentence(of = "Promise 25", says = "Returns the place; NONE if they do not meet.")
    static void walkedToTheFirstAndTheLastPlace() {
        PennantRopes x = new PennantRopes();
        x.gap(0, 19);
        x.gap(1, 20);
        x.gap(2, 20);
        Check.same("the first place of all", x.walked(0, 0, 1, 0), 0);
        Check.same("the last place of all", x.walked(0, 18, 1, 19), 379);
        Check.same("never, alike gaps", x.walked(1, 0, 2, 1), -1);
        Check.same("never, the first and the last phase", x.walked(1, 0, 2, 19), -1);
        Check.same("never, even and odd", x.walked(1, 0, 4, 5), -1);
    }

    @Sentence(of = "Promise 25", says = "Throws `IndexOutOfBoundsException` if there is no such hue")
    static void walkedWithoutHue() {
        PennantRopes x = new PennantRopes();
        Check.failsWith("hue", x, Check.INDEX, hue -> x.walked(hue, 0, 0, 0), -1, 8);
        Check.failsWith("other", x, Check.INDEX, other -> x.walked(0, 0, other, 0), -1, 8);
        Check.failsWith("both", x, Check.INDEX, both -> x.walked(both, 0, both, 0), -1, 8);
        Check.failsWith("with wrong phases, hue", x, Check.INDEX, hue -> x.walked(hue, -1, 0, 2), -1, 8);
        Check.failsWith("with wrong phases, other", x, Check.INDEX, other -> x.walked(0, 2, other, -1), -1, 8);
    }

    @Sentence(of = "Promise 25", says = "Throws `IllegalArgumentException` if a phase is out of range")
    static void walkedByWrongPhases() {
        PennantRopes x = new PennantRopes();
        Check.failsWith("phase", x, Check.ARGUMENT, phase -> x.walked(0, phase, 7, 0), -1, 2, 8);
        Check.failsWith("other phase", x, Check.ARGUMENT, phase -> x.walked(7, 0, 0, phase), -1, 2, 8);
        Check.failsWith("both", x, Check.ARGUMENT, phase -> x.walked(7, phase, 7, phase), -1, 9);
        x.gap(0, 20);
        Check.failsWith("phase with gap 20", x, Check.ARGUMENT, phase -> x.walked(0, phase, 7, 0), -1, 20);
        Check.failsWith("other phase with gap 20", x, Check.ARGUMENT, phase -> x.walked(7, 0, 0, phase), -1, 20);
    }

    // ---- Promise 26: phases

    private static void phasesOf(String text, int hue, int many, int lowest, int most) {
        PennantRopes x = Check.played(text);
        Check.same("how many phases of " + hue + " on " + text, x.phases(0, hue, 0), many);
        Check.same("the lowest phase of " + hue + " on " + text, x.phases(0, hue, 1), lowest);
        Check.same("the phase with the most places of " + hue + " on " + text, x.phases(0, hue, 2), most);
    }

    @Sentence(of = "Promise 26", says = "Tells with how many phases a hue can be laid.")
    static void asManyAsRefusalAllows() {
        PennantRopes x = Check.played("r12,f5,c0,d2,r4,h0");
        for (int rope = 0; rope < 2; rope++) {
            for (int hue = 0; hue < 8; hue++) {
                int many = 0;
                for (int phase = 0; phase < hue + 2; phase++) {
                    many += x.refusal(rope, hue, phase) == 0 ? 1 : 0;
                }
                Check.same("hue " + hue + " on " + rope, x.phases(rope, hue, 0), many);
            }
        }
        Check.changesNothing("phases", x, () -> x.phases(0, 0, 0) + x.phases(0, 1, 1) + x.phases(0, 7, 2));
    }

    @Sentence(of = "Promise 26", says = "`rope`: its number")
    static void phasesOnEachRope() {
        PennantRopes x = Check.played("r1,r2,r3,r4");
        for (int rope = 0; rope < 4; rope++) {
            Check.same("rope " + rope, x.phases(rope, 7, 0), rope + 1);
        }
    }

    @Sentence(of = "Promise 26", says = "`hue`: 0 to 7")
    static void phasesOfEachHue() {
        PennantRopes x = Check.played("r60");
        for (int hue = 0; hue < 8; hue++) {
            Check.same("hue " + hue, x.phases(0, hue, 0), hue + 2);
        }
    }

    @Sentence(of = "Promise 26", says = "0: how many phases")
    static void noneToAllPhases() {
        phasesOf("r60", 7, 9, 0, 0);
        phasesOf("r9", 7, 9, 0, 0);
        phasesOf("r8", 7, 8, 0, 0);
        phasesOf("r1", 7, 1, 0, 0);
        phasesOf("r9,h0", 7, 0, -1, -1);
        phasesOf("r2,h0,g1", 0, 0, -1, -1);
        phasesOf("r9,a0", 2, 2, 1, 1);
        phasesOf("r9,a1", 2, 2, 0, 0);
        PennantRopes x = Check.played("r60");
        x.gap(0, 20);
        Check.same("20 phases", x.phases(0, 0, 0), 20);
    }

    @Sentence(of = "Promise 26", says = "1: the lowest of these, NONE without one")
    static void theLowestPhase() {
        phasesOf("r9,h0", 6, 7, 1, 1);
        phasesOf("r9,h0,g1", 5, 5, 2, 2);
        phasesOf("r8,a0", 6, 4, 1, 1);
        phasesOf("r3,h0,g1", 1, 1, 2, 2);
        phasesOf("r3,h0,g1", 0, 0, -1, -1);
        phasesOf("r3,h0,g1", 7, 0, -1, -1);
    }

    /** A lesser phase never takes fewer places, so that this one is always the lowest one too. */
    @Sentence(of = "Promise 26", says = "2: the one by which it takes the most places, of several the lowest, NONE without one")
    static void thePhaseWithTheMostPlaces() {
        phasesOf("r9", 6, 8, 0, 0);
        phasesOf("r9,h8", 6, 7, 1, 1);
        phasesOf("r10,h0", 6, 6, 2, 2);
        phasesOf("r10,g0", 7, 7, 1, 1);
        phasesOf("r10,g1", 7, 7, 2, 2);
        phasesOf("r5,f0,h3", 1, 2, 1, 1);
        PennantRopes x = new PennantRopes();
        x.gap(0, 20);
        x.gap(1, 20);
        x.rope(21);
        Check.same("two places by the first phase", x.phases(0, 0, 2), 0);
        x.lay(0, 1, 0);
        Check.same("one place by each other", x.phases(0, 0, 2), 1);
        PennantRopes y = new PennantRopes();
        y.gap(0, 20);
        y.rope(7);
        y.lay(0, 0, 0);
        Check.same("two places behind one alone", y.phases(0, 4, 2), 1);
        y.gap(1, 5);
        Check.same("places 1 and 6, not 0 and 5", y.phases(0, 1, 2), 1);
    }

    @Sentence(of = "Promise 26", says = "Returns the number.")
    static void allThreeNumbers() {
        phasesOf("r20,a1", 2, 2, 0, 0);
        phasesOf("r19,a0", 2, 2, 1, 1);
    }

    @Sentence(of = "Promise 26", says = "Throws `IndexOutOfBoundsException` if there is no such rope or hue")
    static void phasesWithoutRopeOrHue() {
        PennantRopes none = new PennantRopes();
        Check.failsWith("no ropes, rope", none, Check.INDEX, rope -> none.phases(rope, 0, 0), -1, 0);
        PennantRopes x = Check.played("r1,r2,r3,r4");
        Check.failsWith("rope", x, Check.INDEX, rope -> x.phases(rope, 0, 2), -1, 4);
        Check.failsWith("hue", x, Check.INDEX, hue -> x.phases(0, hue, 2), -1, 8);
        Check.failsWith("number 3 on rope", x, Check.INDEX, rope -> x.phases(rope, 0, 3), -1, 4);
        Check.failsWith("number 3 of hue", x, Check.INDEX, hue -> x.phases(0, hue, 3), -1, 8);
    }

    @Sentence(of = "Promise 26", says = "Throws `IllegalArgumentException` if what is not 0 to 2")
    static void noSuchNumberOfPhases() {
        PennantRopes x = Check.played("r1,a0");
        Check.failsWith("of a laid hue, what", x, Check.ARGUMENT, what -> x.phases(0, 0, what), -1, 3);
        Check.failsWith("of another one, what", x, Check.ARGUMENT, what -> x.phases(0, 1, what), -1, 3);
    }

    // ---- Promise 27: bestHue

    private static void best(String text, int due) {
        Check.same("bestHue on " + text, Check.played(text).bestHue(0), due);
    }

    @Sentence(of = "Promise 27", says = "Finds the hue that fills the most holes.")
    static void theHueThatFillsMost() {
        best("r60", 0);
        best("r60,a0", 2);
        best("r60,a1", 2);
        best("r60,b0", 4);
        PennantRopes x = new PennantRopes();
        x.gap(7, 2);
        x.gap(0, 20);
        x.rope(60);
        Check.same("the last hue", x.bestHue(0), 7);
        Check.changesNothing("bestHue", x, () -> x.bestHue(0));
    }

    @Sentence(of = "Promise 27", says = "`rope`: its number")
    static void bestHueOfEachRope() {
        PennantRopes x = Check.played("r60,a0,r60,r2,h0,g1,r1");
        int[] due = {2, 0, -1, 0};
        for (int rope = 0; rope < 4; rope++) {
            Check.same("rope " + rope, x.bestHue(rope), due[rope]);
        }
    }

    @Sentence(of = "Promise 27", says = "Returns the hue that fits and, with the phase by which it takes the most places, fills the most holes")
    static void notTheLowestPhaseButTheOneWithTheMost() {
        PennantRopes x = new PennantRopes();
        for (int hue = 0; hue < 8; hue++) {
            x.gap(hue, 20);
        }
        x.gap(3, 4);
        x.rope(8);
        x.lay(0, 0, 0);
        Check.same("two places from the second place on", x.bestHue(0), 3);
        for (int place = 1; place < 4; place++) {
            x.lay(0, place == 3 ? 4 : place, place);
        }
        Check.same("it does not fit any more", x.bestHue(0), 5);
        best("r9,a0,c1", 4);
        best("r10,b0", 3);
    }

    @Sentence(of = "Promise 27", says = "of several the lowest")
    static void theLowestOfSeveralHues() {
        best("r1", 0);
        best("r2,h0", 0);
        best("r2,a0", 1);
        PennantRopes x = new PennantRopes();
        for (int hue = 0; hue < 8; hue++) {
            x.gap(hue, 20);
        }
        x.rope(60);
        for (int hue = 0; hue < 8; hue++) {
            Check.same("three places by each", x.bestHue(0), hue);
            x.lay(0, hue, hue);
        }
        x.take(0, 5);
        Check.same("the one that is not laid", x.bestHue(0), 5);
        for (int length = 1; length <= 60; length++) {
            PennantRopes y = new PennantRopes();
            for (int hue = 0; hue < 8; hue++) {
                y.gap(hue, 20);
            }
            y.gap(0, 4);
            y.gap(7, 3);
            y.rope(length);
            int due = (length + 2) / 3 > (length + 3) / 4 ? 7 : 0;
            Check.same("gaps 4 and 3 on " + length, y.bestHue(0), due);
        }
    }

    @Sentence(of = "Promise 27", says = "NONE if none fits.")
    static void noHueFits() {
        best("r1,a0", -1);
        best("r2,h0,g1", -1);
        PennantRopes x = new PennantRopes();
        for (int hue = 1; hue < 8; hue++) {
            x.gap(hue, 5 + 2 * hue);
        }
        Check.play(x, "r60,a0");
        Check.same("30 holes, but each gap is odd", x.bestHue(0), -1);
        x.stretch(0, 20);
        Check.same("place 9, as there is no place 20", x.bestHue(0), 3);
        PennantRopes full = Check.played("r1");
        full.lay(0, 7, 0);
        Check.same("a full rope", full.bestHue(0), -1);
        full.take(0, 7);
        Check.same("a free rope", full.bestHue(0), 0);
    }

    @Sentence(of = "Promise 27", says = "Throws `IndexOutOfBoundsException` if there is no such rope")
    static void bestHueWithoutRope() {
        PennantRopes none = new PennantRopes();
        Check.failsWith("no ropes, rope", none, Check.INDEX, none::bestHue, -1, 0);
        PennantRopes x = Check.played("r1,r1,r1,r1");
        Check.failsWith("rope", x, Check.INDEX, x::bestHue, -1, 4);
    }

    // ---- Promise 28: joining

    @Sentence(of = "Promise 28", says = "Tells why two ropes cannot be joined.")
    static void asJoinDoes() {
        PennantRopes x = Check.played("r3,a0,r4,a0,r3,c1,r57");
        for (int first = 0; first < 4; first++) {
            for (int second = 0; second < 4; second++) {
                int rope = first;
                int other = second;
                String what = rope + " and " + other;
                Check.changesNothing("joining of " + what, x, () -> x.joining(rope, other));
                if (x.joining(rope, other) == 0) {
                    Check.undone("join of " + what, x, () -> x.join(rope, other));
                } else {
                    Check.fails("join of " + what, x, Check.STATE, () -> x.join(rope, other));
                }
            }
        }
    }

    @Sentence(of = "Promise 28", says = "`rope`: its number")
    static void joiningOfEachRope() {
        PennantRopes x = Check.played("r1,r59,r60,r1");
        int[] due = {1, 0, 2, 0};
        for (int rope = 0; rope < 4; rope++) {
            Check.same("rope " + rope, x.joining(rope, 0), due[rope]);
        }
    }

    @Sentence(of = "Promise 28", says = "`other`: its number")
    static void joiningWithEachOther() {
        PennantRopes x = Check.played("r1,r59,r60,r1");
        int[] due = {0, 0, 2, 1};
        for (int other = 0; other < 4; other++) {
            Check.same("other " + other, x.joining(3, other), due[other]);
        }
    }

    private static void joins(String text, int due) {
        Check.same("joining of " + text, Check.played(text).joining(0, 1), due);
    }

    @Sentence(of = "Promise 28", says = "Returns the reason, 1 to 4")
    static void eachReasonAgainstAJoin() {
        Check.same("1", Check.played("r3").joining(0, 0), 1);
        Check.same("1 ahead of 2", Check.played("r31,a0").joining(0, 0), 1);
        joins("r30,r31", 2);
        joins("r31,a0,r30,a0", 2);
        joins("r3,a0,r3,a0", 3);
        joins("r4,a0,r3,a1", 3);
        joins("r3,a0,b1,r3,a0,c1", 3);
        joins("r2,a0,r3,b1", 4);
        joins("r9,b0,c1,r1", 4);
        Check.same("not the other way", Check.played("r9,b0,c1,r1").joining(1, 0), 0);
    }

    @Sentence(of = "Promise 28", says = "0 if they can be joined.")
    static void noReasonAgainstAJoin() {
        joins("r1,r1", 0);
        joins("r30,r30", 0);
        joins("r4,a0,r3,a0", 0);
        joins("r30,a0,r30,a0", 0);
        joins("r30,a0,r30,c1", 0);
        joins("r2,a0,r3,b2", 4);
        joins("r2,a0,r2,h1", 0);
        joins("r1,h0,r1,g0", 0);
    }

    @Sentence(of = "Promise 28", says = "Throws `IndexOutOfBoundsException` if there is no such rope")
    static void joiningWithoutRope() {
        PennantRopes none = new PennantRopes();
        Check.fails("no ropes", none, Check.INDEX, () -> none.joining(0, 0));
        PennantRopes x = Check.played("r1,r1,r1,r1");
        Check.failsWith("rope", x, Check.INDEX, rope -> x.joining(rope, 0), -1, 4);
        Check.failsWith("other", x, Check.INDEX, other -> x.joining(0, other), -1, 4);
        Check.failsWith("both", x, Check.INDEX, both -> x.joining(both, both), -1, 4);
    }

    // ---- Promise 29: greatest

    @Sentence(of = "Promise 29", says = "Finds the greatest length to which a rope can be stretched.")
    static void asStretchDoes() {
        String[] texts = {"r3,h0,g1", "r12,f5,c0,d2", "r5,b0,c1", "r4,a0,c1", "r2,d1,f0", "r8,h0,g1,f2,e3,d4,c5,b6,a7"};
        for (String text : texts) {
            PennantRopes x = new PennantRopes();
            Check.play(x, text);
            int greatest = x.greatest(0);
            Check.changesNothing("greatest of " + text, x, () -> x.greatest(0));
            Check.undone("stretch of " + text, x, () -> x.stretch(0, greatest));
            if (greatest < 60) {
                Check.fails("stretch of " + text + " by one more", x, Check.STATE, () -> x.stretch(0, greatest + 1));
            }
        }
    }

    @Sentence(of = "Promise 29", says = "`rope`: its number")
    static void greatestOfEachRope() {
        PennantRopes x = Check.played("r3,h0,g1,r3,r2,a0,b1,r60");
        int[] due = {9, 60, 4, 60};
        for (int rope = 0; rope < 4; rope++) {
            Check.same("rope " + rope, x.greatest(rope), due[rope]);
        }
    }

    @Sentence(of = "Promise 29", says = "Returns the length, at least its own")
    static void itsOwnLengthIfTwoMeetBehindIt() {
        for (int length = 2; length <= 9; length++) {
            PennantRopes x = Check.played("r" + length + ",h0,g1");
            Check.same("two that meet on 9, length " + length, x.greatest(0), 9);
        }
        PennantRopes x = Check.played("r4,a0,b1");
        Check.same("two that meet on 4", x.greatest(0), 4);
        Check.fails("5", x, Check.STATE, () -> x.stretch(0, 5));
        Check.same("one hue alone", Check.played("r4,a0").greatest(0), 60);
    }

    @Sentence(of = "Promise 29", says = "and at most 60.")
    static void sixtyIfTwoMeetBehindIt() {
        Check.same("without hues", Check.played("r1").greatest(0), 60);
        Check.same("60 already", Check.played("r60,a0,c1").greatest(0), 60);
        Check.same("they never meet", Check.played("r9,a0,c1").greatest(0), 60);
        PennantRopes x = new PennantRopes();
        x.gap(6, 19);
        x.gap(7, 20);
        Check.play(x, "r20,g2,h19");
        Check.same("they meet on 59", x.greatest(0), 59);
        PennantRopes y = new PennantRopes();
        y.gap(6, 19);
        y.gap(7, 20);
        Check.play(y, "r20,g3,h0");
        Check.same("they meet on 60", y.greatest(0), 60);
        Check.same("so 60 can be had", y.stretch(0, 60), 0);
    }

    @Sentence(of = "Promise 29", says = "Throws `IndexOutOfBoundsException` if there is no such rope")
    static void greatestWithoutRope() {
        PennantRopes none = new PennantRopes();
        Check.failsWith("no ropes, rope", none, Check.INDEX, none::greatest, -1, 0);
        PennantRopes x = Check.played("r1,r1,r1,r1");
        Check.failsWith("rope", x, Check.INDEX, x::greatest, -1, 4);
    }

    // ---- Promise 30: fullness

    @Sentence(of = "Promise 30", says = "Returns how full ropes are.")
    static void freeAndFullRopes() {
        PennantRopes x = Check.played("r1");
        Check.sameDouble("free", x.fullness(), 0.0);
        x.lay(0, 0, 0);
        Check.sameDouble("full", x.fullness(), 1.0);
        Check.changesNothing("fullness", x, () -> (long) x.fullness());
    }

    @Sentence(of = "Promise 30", says = "Returns the places that are taken, as a double, divided by all places of all ropes")
    static void eachShareOfUpTo240Places() {
        for (int length = 1; length <= 60; length++) {
            PennantRopes x = new PennantRopes();
            x.rope(length);
            x.lay(0, 1, 0);
            int taken = (length + 2) / 3;
            Check.sameDouble(taken + " of " + length, x.fullness(), (double) taken / length);
            Check.play(x, "r60,a0,r60,r60,b0");
            Check.sameDouble("of all ropes with " + length, x.fullness(), (double) (taken + 50) / (length + 180));
        }
        PennantRopes least = Check.played("r60,r60,r60,r1,h0");
        least.stretch(3, 9);
        Check.sameDouble("1 of 189", least.fullness(), 1.0 / 189.0);
    }

    @Sentence(of = "Promise 30", says = "1.0 without ropes.")
    static void fullWithoutRopes() {
        PennantRopes x = new PennantRopes();
        Check.sameDouble("a new object", x.fullness(), 1.0);
        x.rope(5);
        Check.sameDouble("with a rope", x.fullness(), 0.0);
        x.drop(0);
        Check.sameDouble("dropped", x.fullness(), 1.0);
    }

    // ---- Promise 31: digest

    /** Ropes of which the first ones can be joined with others one way alone. */
    private static final String[] TEXTS = {"r1", "r60", "r9,b0,c1,r1", "r1,r9,b0,c1", "r3,b0,r2,h1", "r9,a0,c1,<,r4,h3,r3,a0",
        "r4,a0,r3,a1,r31,r60", "r8,h0,g1,f2,e3,d4"};

    @Sentence(of = "Promise 31", says = "Computes a hash of the whole state.")
    static void eachChangeOfTheStateChangesTheHash() {
        PennantRopes x = Check.played("r9,h0,g1,r5");
        long before = x.digest();
        Check.same("nothing changed", x.digest(), before);
        x.append('r');
        Check.same("a buffer", x.digest() == before ? 0 : 1, 1);
        x.clearBuffer();
        Check.same("as before", x.digest(), before);
        x.keep();
        Check.same("a snapshot is not in it", x.digest(), before);
        x.gap(0, 3);
        Check.same("a gap", x.digest() == before ? 0 : 1, 1);
        x.undo();
        Check.same("as before", x.digest(), before);
        x.take(0, 7);
        x.lay(0, 7, 0);
        Check.sameText("another order alone", Check.look(x, 0), "hg....... gh");
        Check.same("another order", x.digest() == before ? 0 : 1, 1);
    }

    @Sentence(of = "Promise 31", says = "The hash starts at 3643.")
    static void hashesThatWereWorkedOutApart() {
        PennantRopes x = new PennantRopes();
        Check.same("a new object", x.digest(), 8991062457446956827L);
        Check.write(x, "r~");
        Check.same("two characters", x.digest(), 7334795110455360041L);
        Check.same("one place", Check.played("r1").digest(), -7841910644518546529L);
        Check.same("two ropes", Check.played("r3,b0,r2,h1").digest(), -4796045605117266284L);
    }

    @Sentence(of = "Promise 31", says = "For each value v of the following list, in order, the hash becomes 31 * hash + v, in long arithmetic with overflow.")
    static void hashOfTheLongestList() {
        PennantRopes x = Check.played("r60,r60,b1,r60,a0,c1,r60,h8");
        String most = "~".repeat(60);
        Check.write(x, most);
        Check.same("4 ropes of 60 and a full buffer", x.digest(), Digests.hashed(x, most));
    }

    @Sentence(of = "Promise 31", says = "The values are: count(0) to count(7); for each hue its gap; for each rope its numbers 0 to 5, each of its places, for each hue hueOf 0 to 3 and phases 0 to 2, then bestHue, greatest")
    static void hashesByTheOtherCalls() {
        for (String text : TEXTS) {
            PennantRopes x = new PennantRopes();
            x.gap(7, 20);
            Check.play(x, text);
            Check.same("digest of " + text, x.digest(), Digests.hashed(x, ""));
            x.stretch(0, x.greatest(0));
            Check.same("digest of " + text + ", stretched", x.digest(), Digests.hashed(x, ""));
        }
    }

    @Sentence(of = "Promise 31", says = "and joining with the rope 0")
    static void hashWhereOneWayAloneCanBeJoined() {
        PennantRopes x = Check.played("r9,b0,c1,r1");
        Check.same("0 with 1", x.joining(0, 1), 4);
        Check.same("1 with 0", x.joining(1, 0), 0);
        Check.same("digest", x.digest(), Digests.hashed(x, ""));
    }

    @Sentence(of = "Promise 31", says = "meeting of the hue 0 with the phase 1 and of each hue with the phase 0")
    static void hashOfMeetingsWithEachGap() {
        for (int gap = 2; gap <= 20; gap++) {
            PennantRopes x = new PennantRopes();
            x.gap(0, gap);
            Check.same("gap " + gap + " of hue 0", x.digest(), Digests.hashed(x, ""));
            x.gap(7, gap);
            Check.same("gap " + gap + " of hue 7", x.digest(), Digests.hashed(x, ""));
        }
    }

    @Sentence(of = "Promise 31", says = "the bits of fullness (as Double.doubleToLongBits)")
    static void hashOfEachShare() {
        for (int length = 1; length <= 60; length++) {
            PennantRopes x = new PennantRopes();
            x.rope(length);
            x.lay(0, 1, 0);
            Check.same("one rope of " + length, x.digest(), Digests.hashed(x, ""));
            Check.play(x, "r60,r60,r59");
            Check.same("4 ropes", x.digest(), Digests.hashed(x, ""));
            x.take(0, 1);
            Check.same("all free", x.digest(), Digests.hashed(x, ""));
        }
        for (int first = 1; first <= 60; first++) {
            PennantRopes x = Check.played("r60,r60,r60,r" + first);
            x.gap(0, 20);
            x.lay(3, 0, 0);
            Check.same("few of " + (180 + first), x.digest(), Digests.hashed(x, ""));
        }
    }

    @Sentence(of = "Promise 31", says = "the length of the buffer and each of its character codes.")
    static void hashOfEachLengthOfTheBuffer() {
        PennantRopes x = new PennantRopes();
        StringBuilder buffer = new StringBuilder();
        for (int length = 0; length < 60; length++) {
            Check.same("length " + length, x.digest(), Digests.hashed(x, buffer.toString()));
            x.append(33 + length);
            buffer.append((char) (33 + length));
        }
        Check.same("length 60", x.digest(), Digests.hashed(x, buffer.toString()));
        x.clearBuffer();
        Check.same("cleared", x.digest(), Digests.hashed(x, ""));
    }

    @Sentence(of = "Promise 31", says = "Returns the hash.")
    static void theSameHashAgain() {
        PennantRopes x = Check.played("r9,h0");
        PennantRopes y = Check.played("r9,h0");
        Check.same("twice", x.digest(), x.digest());
        Check.same("of another object", x.digest(), y.digest());
        Check.same("nothing is saved", x.count(7), 1);
    }
}
