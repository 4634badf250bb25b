/** Promises 24 to 31. */
final class WouldBeTest {
    public static void main(String[] args) {
        meeting();
        meetingEverywhere();
        meetingWrong();
        walkedWrong();
        phases();
        phasesWrong();
        bestHue();
        joining();
        joiningReasonsInOrder();
        joiningTwoOnOnePlace();
        greatest();
        fullness();
        digest();
        Check.end();
    }

    private static void meets(PennantRopes x, int hue, int phase, int other, int otherPhase, int due) {
        String what = hue + " by " + phase + ", " + other + " by " + otherPhase;
        Check.same("meeting of " + what, x.meeting(hue, phase, other, otherPhase), due);
        Check.same("meeting the other way of " + what, x.meeting(other, otherPhase, hue, phase), due);
        Check.same("walked of " + what, x.walked(hue, phase, other, otherPhase), due);
        Check.same("walked the other way of " + what, x.walked(other, otherPhase, hue, phase), due);
    }

    private static void meeting() {
        PennantRopes x = new PennantRopes();
        meets(x, 0, 1, 1, 2, 5);
        meets(x, 0, 0, 1, 0, 0);
        meets(x, 0, 0, 2, 1, -1);
        meets(x, 0, 0, 2, 2, 2);
        meets(x, 0, 0, 0, 0, 0);
        meets(x, 0, 1, 0, 1, 1);
        meets(x, 0, 0, 0, 1, -1);
        meets(x, 6, 7, 7, 8, 71);
        meets(x, 4, 5, 7, 2, 11);
        x.gap(0, 20);
        x.gap(1, 19);
        meets(x, 0, 19, 1, 18, 379);
        meets(x, 0, 0, 1, 1, 20);
        meets(x, 0, 1, 1, 0, 361);
        Check.same("nothing is saved", x.count(7), 2);
    }

    /** The place is sought among all places. */
    private static int sought(int gap, int phase, int otherGap, int otherPhase) {
        for (int place = 0; place < 800; place++) {
            if (place >= phase && place >= otherPhase && (place - phase) % gap == 0 && (place - otherPhase) % otherGap == 0) {
                return place;
            }
        }
        return -1;
    }

    private static void meetingEverywhere() {
        for (int gap = 2; gap <= 20; gap++) {
            for (int phase = 0; phase < gap; phase++) {
                meetingOf(gap, phase);
            }
        }
    }

    private static void meetingOf(int gap, int phase) {
        for (int otherGap = 2; otherGap <= 20; otherGap++) {
            PennantRopes x = new PennantRopes();
            x.gap(3, gap);
            x.gap(6, otherGap);
            for (int otherPhase = 0; otherPhase < otherGap; otherPhase++) {
                meets(x, 3, phase, 6, otherPhase, sought(gap, phase, otherGap, otherPhase));
            }
        }
    }

    private static void meetingWrong() {
        PennantRopes x = new PennantRopes();
        Check.fails("hue 8", x, Check.INDEX, () -> x.meeting(8, 0, 0, 0));
        Check.fails("hue -1", x, Check.INDEX, () -> x.meeting(-1, 0, 0, 0));
        Check.fails("other hue 8", x, Check.INDEX, () -> x.meeting(0, 0, 8, 0));
        Check.fails("other hue -1", x, Check.INDEX, () -> x.meeting(0, 0, -1, 0));
        Check.fails("phase 2 and other hue 8", x, Check.INDEX, () -> x.meeting(0, 2, 8, 0));
        Check.fails("phase 2", x, Check.ARGUMENT, () -> x.meeting(0, 2, 1, 0));
        Check.fails("phase -1", x, Check.ARGUMENT, () -> x.meeting(0, -1, 1, 0));
        Check.fails("other phase 3", x, Check.ARGUMENT, () -> x.meeting(0, 0, 1, 3));
        Check.fails("other phase -1", x, Check.ARGUMENT, () -> x.meeting(0, 0, 1, -1));
    }

    private static void walkedWrong() {
        PennantRopes x = new PennantRopes();
        Check.fails("hue 8", x, Check.INDEX, () -> x.walked(8, 0, 0, 0));
        Check.fails("hue -1", x, Check.INDEX, () -> x.walked(-1, 0, 0, 0));
        Check.fails("other hue 8", x, Check.INDEX, () -> x.walked(0, 0, 8, 0));
        Check.fails("other hue -1", x, Check.INDEX, () -> x.walked(0, 0, -1, 0));
        Check.fails("phase 2 and other hue 8", x, Check.INDEX, () -> x.walked(0, 2, 8, 0));
        Check.fails("phase 2", x, Check.ARGUMENT, () -> x.walked(0, 2, 1, 0));
        Check.fails("phase -1", x, Check.ARGUMENT, () -> x.walked(0, -1, 1, 0));
        Check.fails("other phase 3", x, Check.ARGUMENT, () -> x.walked(0, 0, 1, 3));
        Check.fails("other phase -1", x, Check.ARGUMENT, () -> x.walked(0, 0, 1, -1));
    }

    private static void phasesOf(PennantRopes x, int rope, int hue, int many, int lowest, int most) {
        Check.same("how many phases of " + hue, x.phases(rope, hue, 0), many);
        Check.same("the lowest phase of " + hue, x.phases(rope, hue, 1), lowest);
        Check.same("the phase with the most places of " + hue, x.phases(rope, hue, 2), most);
    }

    private static void phases() {
        PennantRopes x = new PennantRopes();
        x.rope(5);
        phasesOf(x, 0, 0, 2, 0, 0);
        phasesOf(x, 0, 2, 4, 0, 0);
        phasesOf(x, 0, 7, 5, 0, 0);
        x.lay(0, 6, 0);
        phasesOf(x, 0, 6, 0, -1, -1);
        phasesOf(x, 0, 0, 1, 1, 1);
        phasesOf(x, 0, 7, 4, 1, 1);
        x.lay(0, 5, 2);
        phasesOf(x, 0, 1, 1, 1, 1);
        phasesOf(x, 0, 2, 2, 1, 1);
        x.lay(0, 0, 1);
        phasesOf(x, 0, 1, 0, -1, -1);
        phasesOf(x, 0, 3, 1, 4, 4);
        phasesOf(x, 0, 2, 0, -1, -1);
        Check.same("layings", x.count(4), 3);
        Check.same("saved states", x.count(7), 4);
        x.rope(60);
        x.gap(7, 20);
        phasesOf(x, 1, 7, 20, 0, 0);
    }

    private static void phasesWrong() {
        PennantRopes x = new PennantRopes();
        x.rope(5);
        Check.fails("rope 1", x, Check.INDEX, () -> x.phases(1, 0, 0));
        Check.fails("rope -1", x, Check.INDEX, () -> x.phases(-1, 0, 0));
        Check.fails("hue 8", x, Check.INDEX, () -> x.phases(0, 8, 0));
        Check.fails("hue -1", x, Check.INDEX, () -> x.phases(0, -1, 0));
        Check.fails("hue 8, what 3", x, Check.INDEX, () -> x.phases(0, 8, 3));
        Check.fails("rope 1, what 3", x, Check.INDEX, () -> x.phases(1, 0, 3));
        Check.fails("what 3", x, Check.ARGUMENT, () -> x.phases(0, 0, 3));
        Check.fails("what -1", x, Check.ARGUMENT, () -> x.phases(0, 0, -1));
    }

    private static void bestHue() {
        PennantRopes x = new PennantRopes();
        x.rope(10);
        Check.same("all free", x.bestHue(0), 0);
        x.lay(0, 0, 0);
        Check.same("the odd places", x.bestHue(0), 2);
        x.lay(0, 2, 1);
        Check.same("places 3 and 7", x.bestHue(0), 5);
        x.lay(0, 5, 3);
        Check.same("place 7", x.bestHue(0), 6);
        x.lay(0, 6, 7);
        Check.same("full", x.bestHue(0), -1);
        x.rope(1);
        Check.same("one place", x.bestHue(1), 0);
        x.gap(7, 3);
        x.gap(3, 3);
        x.rope(3);
        x.lay(2, 0, 1);
        Check.same("of several the lowest", x.bestHue(2), 1);
        x.rope(12);
        x.lay(3, 0, 0);
        x.lay(3, 2, 1);
        x.take(3, 0);
        Check.same("hue 0", x.bestHue(3), 0);
        Check.fails("rope 4", x, Check.INDEX, () -> x.bestHue(4));
        Check.fails("rope -1", x, Check.INDEX, () -> x.bestHue(-1));
        Check.same("saved states", x.count(7), 6);
        PennantRopes y = new PennantRopes();
        y.gap(5, 2);
        y.gap(0, 3);
        y.rope(9);
        Check.same("the one with the least gap", y.bestHue(0), 5);
    }

    private static void joining() {
        PennantRopes x = new PennantRopes();
        x.rope(30);
        x.rope(30);
        Check.same("with itself", x.joining(0, 0), 1);
        Check.same("60 places", x.joining(0, 1), 0);
        Check.same("60 places the other way", x.joining(1, 0), 0);
        x.rope(31);
        Check.same("61 places", x.joining(0, 2), 2);
        Check.same("61 places the other way", x.joining(2, 0), 2);
        Check.same("with itself, above 60", x.joining(2, 2), 1);
        Check.fails("rope 3", x, Check.INDEX, () -> x.joining(3, 0));
        Check.fails("rope -1", x, Check.INDEX, () -> x.joining(-1, 0));
        Check.fails("other rope 3", x, Check.INDEX, () -> x.joining(0, 3));
        Check.fails("other rope -1", x, Check.INDEX, () -> x.joining(0, -1));
        Check.fails("rope 3 with itself", x, Check.INDEX, () -> x.joining(3, 3));
        Check.same("saved states", x.count(7), 3);
        Check.same("ropes", x.count(0), 3);
    }

    private static void joiningReasonsInOrder() {
        Check.same("the gap where they meet", Check.played("r4,a0,r3,a0").joining(0, 1), 0);
        Check.same("too soon", Check.played("r3,a0,r3,a0").joining(0, 1), 3);
        Check.same("too late", Check.played("r4,a0,r3,a1").joining(0, 1), 3);
        Check.same("a whole gap too late", Check.played("r5,c0,r5,c3").joining(0, 1), 0);
        Check.same("in a gap that has one more", Check.played("r3,c0,r5,c3").joining(0, 1), 3);
        Check.same("a hue that is missed once", Check.played("r6,c0,r7,<,c3").joining(0, 1), 3);
        Check.same("3 ahead of 4", Check.played("r3,a0,b1,r3,a0,c1").joining(0, 1), 3);
        Check.same("3 for the second hue of the first one", Check.played("r6,d1,b0,r6,b1,d0").joining(0, 1), 3);
        Check.same("2 ahead of 3", Check.played("r31,a0,r30,a0").joining(0, 1), 2);
    }

    private static void joiningTwoOnOnePlace() {
        Check.same("the back one goes on ahead", Check.played("r2,a0,r3,b1").joining(0, 1), 4);
        Check.same("the front one goes on behind", Check.played("r2,a0,r3,c0").joining(0, 1), 4);
        Check.same("two of the back one meet ahead", Check.played("r5,r4,b1,c3").joining(0, 1), 4);
        Check.same("two of the front one meet behind", Check.played("r9,b0,c1,r1").joining(0, 1), 4);
        Check.same("both are free there", Check.played("r9,b0,c1,r1").joining(1, 0), 0);
        Check.same("a hue of both meets another one", Check.played("r4,a0,r4,a0,c1").joining(0, 1), 0);
        Check.same("the second one of the front", Check.played("r5,c1,a0,r3,f0").joining(0, 1), 4);
        Check.same("the second one of the back", Check.played("r5,c1,a0,r3,f1").joining(1, 0), 4);
        PennantRopes x = Check.played("r5,c1,a0,r3,f2");
        Check.same("all go on over free places", x.joining(1, 0), 0);
        Check.same("join", x.join(1, 0), 8);
        Check.sameText("joined", Check.look(x, 0), "cafaca.a fca");
    }

    private static void greatest() {
        PennantRopes x = new PennantRopes();
        x.rope(5);
        Check.same("without hues", x.greatest(0), 60);
        x.lay(0, 1, 0);
        Check.same("one hue", x.greatest(0), 60);
        x.lay(0, 2, 1);
        Check.same("two hues meet at 9", x.greatest(0), 9);
        x.stretch(0, 9);
        Check.same("its own length", x.greatest(0), 9);
        x.stretch(0, 1);
        Check.same("one hue is left", x.greatest(0), 60);
        x.rope(60);
        Check.same("60 already", x.greatest(1), 60);
        x.gap(6, 19);
        x.gap(7, 20);
        x.rope(20);
        x.lay(2, 6, 2);
        x.lay(2, 7, 19);
        Check.same("they meet at 59", x.greatest(2), 59);
        Check.fails("60 places", x, Check.STATE, () -> x.stretch(2, 60));
        Check.same("59 places", x.stretch(2, 59), 0);
        Check.fails("rope 3", x, Check.INDEX, () -> x.greatest(3));
        Check.fails("rope -1", x, Check.INDEX, () -> x.greatest(-1));
    }

    private static void fullness() {
        PennantRopes x = new PennantRopes();
        Check.sameDouble("without ropes", x.fullness(), 1.0);
        x.rope(7);
        Check.sameDouble("free", x.fullness(), 0.0);
        x.lay(0, 2, 0);
        Check.sameDouble("2 of 7", x.fullness(), 2.0 / 7);
        x.rope(4);
        Check.sameDouble("2 of 11", x.fullness(), 2.0 / 11);
        x.lay(1, 0, 0);
        x.lay(1, 2, 1);
        Check.sameDouble("5 of 11", x.fullness(), 5.0 / 11);
        x.drop(0);
        Check.sameDouble("3 of 4", x.fullness(), 0.75);
        x.lay(0, 3, 3);
        Check.sameDouble("full", x.fullness(), 1.0);
        x.drop(0);
        Check.sameDouble("without ropes again", x.fullness(), 1.0);
    }

    private static void digest() {
        PennantRopes x = new PennantRopes();
        Check.same("a new object", x.digest(), Digests.hashed(x, ""));
        Check.write(x, "r6!~");
        Check.same("with a buffer", x.digest(), Digests.hashed(x, "r6!~"));
        Check.same("twice", x.digest(), x.digest());
        PennantRopes free = Check.played("r9,r1");
        Check.same("free ropes", free.digest(), Digests.hashed(free, ""));
        PennantRopes y = Check.played("r9,a0,c1,<,r4,h3,r3,a0");
        Check.same("ropes", y.digest(), Digests.hashed(y, ""));
        y.cut(0, 4);
        y.join(1, 2);
        Check.write(y, "zz");
        Check.same("ropes, cut and joined", y.digest(), Digests.hashed(y, "zz"));
        for (int length = 1; length <= 60; length++) {
            for (int gap = 2; gap <= 20; gap += 3) {
                PennantRopes z = new PennantRopes();
                z.gap(7, gap);
                z.rope(length);
                z.lay(0, 7, Math.min(gap, length) - 1);
                Check.same("one rope of " + length, z.digest(), Digests.hashed(z, ""));
            }
        }
    }
}
