/** The sentences of the document's terms, each with a test of its own. */
final class TermsSentencesTest {
    public static void main(String[] args) {
        Check.sentences(TermsSentencesTest.class);
    }

    // ---- What it is, Terms

    @Sentence(of = "What it is", says = "An object is used for at most 512 calls after it has been made")
    static void the512thCallAnswersAsTheFirst() {
        PennantRopes x = new PennantRopes();
        for (int call = 1; call <= 512; call++) {
            int gap = call % 2 == 0 ? 20 : 2;
            Check.same("call " + call, x.gap(7, gap), call == 1 ? 9 : 22 - gap);
        }
        PennantRopes y = new PennantRopes();
        y.rope(60);
        for (int pair = 0; pair < 255; pair++) {
            y.lay(0, 0, pair % 2);
            y.take(0, 0);
        }
        Check.same("call 512 of another one", y.count(4), 255);
    }

    @Sentence(of = "Terms", says = "All numbers are integers, but for a share.")
    static void aShareIsBetweenIntegers() {
        PennantRopes x = Check.played("r3,b0");
        Check.sameDouble("a third", x.fullness(), 1.0 / 3.0);
    }

    // ---- Hues, ropes

    @Sentence(of = "Hues, ropes", says = "There are 8 hues, numbered from 0")
    static void hueNumbersAre0To7() {
        PennantRopes x = new PennantRopes();
        Check.same("hue 0", x.gapOf(0), 2);
        Check.same("hue 7", x.gapOf(7), 9);
        Check.failsWith("hue", x, Check.INDEX, x::gapOf, -1, 8, 9);
    }

    @Sentence(of = "Hues, ropes", says = "each with a gap, 2 to 20")
    static void eachHueTakesGaps2And20() {
        PennantRopes x = new PennantRopes();
        for (int each = 0; each < 8; each++) {
            int hue = each;
            x.gap(hue, 2);
            Check.same("gap 2 of " + hue, x.gapOf(hue), 2);
            x.gap(hue, 20);
            Check.same("gap 20 of " + hue, x.gapOf(hue), 20);
            Check.failsWith("gap of " + hue, x, Check.ARGUMENT, gap -> x.gap(hue, gap), 1, 21);
        }
    }

    @Sentence(of = "Hues, ropes", says = "at first 2 and its number, together.")
    static void gapsAtFirst() {
        PennantRopes x = new PennantRopes();
        for (int hue = 0; hue < 8; hue++) {
            Check.same("gap of " + hue, x.gapOf(hue), 2 + hue);
        }
    }

    @Sentence(of = "Hues, ropes", says = "There are at most 4 ropes, numbered from 0")
    static void fourRopesAndNoFifthByAnyWay() {
        PennantRopes x = new PennantRopes();
        for (int rope = 0; rope < 4; rope++) {
            Check.same("its number", x.rope(10 + rope), rope);
        }
        Check.same("the first one", x.ropeOf(0, 0), 10);
        Check.same("the fourth one", x.ropeOf(3, 0), 13);
        Check.fails("rope 4", x, Check.INDEX, () -> x.ropeOf(4, 0));
        Check.fails("a fifth one", x, Check.STATE, () -> x.rope(1));
        Check.fails("a fifth one by a cut", x, Check.STATE, () -> x.cut(0, 5));
        Check.same("a fifth one by a text", Check.play(x, "r1"), 0);
        Check.same("ropes", x.count(0), 4);
    }

    @Sentence(of = "Hues, ropes", says = "if one is dropped, those behind it have numbers that are less by 1.")
    static void numbersBehindADroppedRope() {
        String[] due = {".. /... /.... ", ". /... /.... ", ". /.. /.... ", ". /.. /... "};
        for (int rope = 0; rope < 4; rope++) {
            PennantRopes x = Check.played("r1,r2,r3,r4");
            x.drop(rope);
            Check.sameText("without rope " + rope, Check.looks(x), due[rope]);
            Check.fails("rope 3", x, Check.INDEX, () -> x.ropeOf(3, 0));
        }
    }

    @Sentence(of = "Hues, ropes", says = "A rope has a length, 1 to 60")
    static void lengths1And60ByEachWay() {
        PennantRopes x = Check.played("r1,r60,r30,r30");
        Check.same("length 1 by a text", x.ropeOf(0, 0), 1);
        Check.same("length 60 by a text", x.ropeOf(1, 0), 60);
        Check.same("length 60 by a join", x.join(2, 3), 60);
        Check.same("length 60 there", x.ropeOf(2, 0), 60);
        Check.same("length 1 by a cut", x.cut(1, 59), 3);
        Check.same("length 1 there", x.ropeOf(3, 0), 1);
        x.stretch(0, 60);
        Check.same("length 60 by stretching", x.ropeOf(0, 0), 60);
        x.stretch(0, 1);
        Check.same("length 1 by stretching", x.ropeOf(0, 0), 1);
        Check.failsWith("stretching to", x, Check.ARGUMENT, length -> x.stretch(0, length), 0, 61);
        Check.fails("61 places by a join", x, Check.STATE, () -> x.join(2, 0));
        x.drop(3);
        Check.failsWith("a new one of", x, Check.ARGUMENT, x::rope, 0, 61);
    }

    @Sentence(of = "Hues, ropes", says = "its places are numbered from 0.")
    static void firstAndLastPlace() {
        PennantRopes x = Check.played("r1,b0,r60,a1");
        Check.same("place 0 of one", x.place(0, 0), 1);
        Check.failsWith("place of one", x, Check.INDEX, place -> x.place(0, place), -1, 1);
        Check.same("place 0 of 60", x.place(1, 0), -1);
        Check.same("place 59 of 60", x.place(1, 59), 0);
        Check.failsWith("place of 60", x, Check.INDEX, place -> x.place(1, place), -1, 60);
    }

    @Sentence(of = "Hues, ropes", says = "A hue is laid on a rope with a phase, 0 to its gap less 1")
    static void phasesUpToEachGapLess1() {
        for (int each = 2; each <= 20; each++) {
            int gap = each;
            PennantRopes x = new PennantRopes();
            x.gap(4, gap);
            x.rope(60);
            Check.failsWith("phase with gap " + gap, x, Check.ARGUMENT, phase -> x.lay(0, 4, phase), -1, gap, gap + 1);
            x.lay(0, 4, 0);
            Check.same("phase 0 with gap " + gap, x.hueOf(0, 4, 0), 0);
            x.take(0, 4);
            x.lay(0, 4, gap - 1);
            Check.same("the last phase with gap " + gap, x.hueOf(0, 4, 0), gap - 1);
        }
    }

    @Sentence(of = "Hues, ropes", says = "and below the length of the rope")
    static void phasesBelowTheLength() {
        for (int each = 1; each < 20; each++) {
            int length = each;
            PennantRopes x = new PennantRopes();
            x.gap(0, 20);
            x.rope(length);
            Check.fails("phase as the length " + length, x, Check.STATE, () -> x.lay(0, 0, length));
            Check.fails("phase 19 on " + length, x, Check.STATE, () -> x.lay(0, 0, 19));
            Check.same("phase one below the length " + length, x.lay(0, 0, length - 1), 1);
        }
    }

    @Sentence(of = "Hues, ropes", says = "it takes the places phase, phase and gap, phase and twice the gap, and so on")
    static void theLastPlaceIsTakenToo() {
        for (int gap = 2; gap <= 20; gap++) {
            for (int length = 1; length <= 60; length++) {
                PennantRopes x = new PennantRopes();
                x.gap(2, gap);
                x.rope(length);
                int phase = (length - 1) % gap;
                x.lay(0, 2, phase);
                String what = "gap " + gap + ", phase " + phase + ", length " + length;
                for (int place = 0; place < length; place++) {
                    Check.same("place " + place + ": " + what, x.place(0, place), place % gap == phase ? 2 : -1);
                }
                Check.same("places: " + what, x.hueOf(0, 2, 1), (length - 1) / gap + 1);
            }
        }
    }

    @Sentence(of = "Hues, ropes", says = "as far as the rope goes.")
    static void nothingBehindTheRope() {
        PennantRopes x = Check.played("r4,a0,r3");
        Check.sameText("the next place would be 4", Check.looks(x), "a.a. a/... ");
        x.lay(0, 7, 3);
        Check.sameText("the next place would be 12", Check.looks(x), "a.ah ah/... ");
    }

    @Sentence(of = "Hues, ropes", says = "No place is taken by two hues")
    static void aTakenPlaceKeepsItsHue() {
        PennantRopes x = Check.played("r9,a1,c0");
        Check.sameText("beside each other", Check.look(x, 0), "ca.aca.ac ac");
        for (int phase : new int[] {0, 1, 3, 4, 5}) {
            Check.fails("phase " + phase, x, Check.STATE, () -> x.lay(0, 5, phase));
        }
        Check.sameText("as before", Check.look(x, 0), "ca.aca.ac ac");
    }

    @Sentence(of = "Hues, ropes", says = "a place that none takes is free (a hole).")
    static void freePlaces() {
        PennantRopes x = Check.played("r5,b1");
        Check.sameText("three holes", Check.look(x, 0), ".b..b b");
        Check.same("holes", x.ropeOf(0, 2), 3);
        x.take(0, 1);
        Check.sameText("all free again", Check.look(x, 0), "..... ");
        Check.same("holes then", x.ropeOf(0, 2), 5);
    }

    @Sentence(of = "Hues, ropes", says = "The hues of a rope have an order, in which they were laid.")
    static void allEightInTheirOrder() {
        PennantRopes x = new PennantRopes();
        x.rope(8);
        for (int hue = 7; hue >= 0; hue--) {
            x.gap(hue, 20);
            x.lay(0, hue, hue);
        }
        Check.sameText("the last one first", Check.look(x, 0), "abcdefgh hgfedcba");
        Check.same("place of the first", x.hueOf(0, 7, 3), 0);
        Check.same("place of the last", x.hueOf(0, 0, 3), 7);
        x.take(0, 7);
        x.lay(0, 7, 7);
        Check.sameText("the first one laid anew", Check.look(x, 0), "abcdefgh gfedcbah");
        x.take(0, 7);
        x.lay(0, 7, 7);
        Check.sameText("the last one laid anew", Check.look(x, 0), "abcdefgh gfedcbah");
    }

    @Sentence(of = "Hues, ropes", says = "A hue cannot be laid for the first of these reasons that applies")
    static void theFirstReasonOfSeveral() {
        PennantRopes x = Check.played("r3,h0,g1");
        Check.same("1 and 2", x.refusal(0, 7, 3), 1);
        Check.same("1 and 3, its own place", x.refusal(0, 7, 0), 1);
        Check.same("1 and 3, the place of another one", x.refusal(0, 7, 1), 1);
        Check.same("1 alone", x.refusal(0, 7, 2), 1);
        Check.same("2 alone", x.refusal(0, 5, 3), 2);
        Check.same("3 alone", x.refusal(0, 5, 1), 3);
        Check.same("none", x.refusal(0, 5, 2), 0);
    }

    @Sentence(of = "Hues, ropes", says = "1: it is laid on the rope already")
    static void laidOnTheRopeAlready() {
        PennantRopes x = Check.played("r30,h0,r30");
        for (int phase = 0; phase < 9; phase++) {
            Check.same("phase " + phase, x.refusal(0, 7, phase), 1);
            Check.same("phase " + phase + " on the other rope", x.refusal(1, 7, phase), 0);
        }
        x.take(0, 7);
        Check.same("taken off", x.refusal(0, 7, 0), 0);
    }

    @Sentence(of = "Hues, ropes", says = "2: the phase is not below the length")
    static void phaseAsTheLength() {
        for (int length = 1; length < 9; length++) {
            PennantRopes x = new PennantRopes();
            x.rope(length);
            Check.same("the length " + length, x.refusal(0, 7, length), 2);
            Check.same("8 on the length " + length, x.refusal(0, 7, 8), 2);
            Check.same("one below the length " + length, x.refusal(0, 7, length - 1), 0);
        }
    }

    @Sentence(of = "Hues, ropes", says = "3: some place that it would take is taken.")
    static void oneTakenPlaceIsEnough() {
        PennantRopes x = Check.played("r19,h0");
        Check.sameText("its places", Check.look(x, 0), "h........h........h h");
        Check.same("the first one alone", x.refusal(0, 5, 0), 3);
        Check.same("one between alone", x.refusal(0, 5, 2), 3);
        Check.same("the last one alone", x.refusal(0, 5, 4), 3);
        Check.same("none", x.refusal(0, 5, 1), 0);
        x.stretch(0, 18);
        Check.same("the last one is gone", x.refusal(0, 5, 4), 0);
    }

    // ---- Meeting

    private static void meets(PennantRopes x, int hue, int phase, int other, int otherPhase, int due) {
        String what = x.gapOf(hue) + " from " + phase + " and " + x.gapOf(other) + " from " + otherPhase;
        Check.same("meeting of " + what, x.meeting(hue, phase, other, otherPhase), due);
        Check.same("walked of " + what, x.walked(hue, phase, other, otherPhase), due);
    }

    @Sentence(of = "Meeting", says = "meet on an endless rope, if p and q are alike modulo the greatest common divisor of g and h")
    static void alikeModuloTheGreatestCommonDivisor() {
        PennantRopes x = new PennantRopes();
        x.gap(0, 12);
        x.gap(1, 18);
        for (int phase = 0; phase < 12; phase++) {
            for (int other = 0; other < 18; other++) {
                String what = "divisor 6: " + phase + " and " + other;
                int due = (phase - other) % 6 == 0 ? 1 : 0;
                Check.same(what, x.meeting(0, phase, 1, other) == -1 ? 0 : 1, due);
                Check.same(what + ", walked", x.walked(0, phase, 1, other) == -1 ? 0 : 1, due);
            }
        }
        meets(x, 5, 6, 6, 7, 55);
        meets(x, 5, 2, 5, 2, 2);
        meets(x, 5, 2, 5, 3, -1);
        meets(x, 5, 0, 5, 6, -1);
        x.gap(2, 10);
        x.gap(3, 20);
        meets(x, 2, 9, 3, 19, 19);
        meets(x, 2, 0, 3, 19, -1);
    }

    @Sentence(of = "Meeting", says = "they meet first at the least place, from the greater one of p and q on, that is p modulo g and q modulo h.")
    static void thePlaceIsAtLeastTheGreaterPhase() {
        PennantRopes x = new PennantRopes();
        meets(x, 0, 0, 7, 0, 0);
        meets(x, 0, 0, 7, 8, 8);
        meets(x, 7, 8, 0, 0, 8);
        meets(x, 0, 1, 7, 8, 17);
        meets(x, 7, 8, 0, 1, 17);
        meets(x, 6, 7, 7, 8, 71);
        meets(x, 6, 0, 7, 8, 8);
        meets(x, 6, 0, 7, 1, 64);
    }

    @Sentence(of = "Meeting", says = "This is found by remainders (from p on, by steps of g, at most h of them)")
    static void theLastStepByRemainders() {
        for (int gap = 2; gap <= 20; gap++) {
            for (int other = 2; other <= 20; other++) {
                PennantRopes x = new PennantRopes();
                x.gap(0, gap);
                x.gap(1, other);
                int again = 1;
                while (again * gap % other != 0) {
                    again++;
                }
                int last = (again - 1) * gap;
                meets(x, 0, 0, 1, last % other, last);
            }
        }
    }

    @Sentence(of = "Meeting", says = "and a second time by going along both from place to place; both ways agree.")
    static void bothWaysAgreeForTheFirstAndTheLastPhases() {
        for (int gap = 2; gap <= 20; gap++) {
            for (int other = 2; other <= 20; other++) {
                PennantRopes x = new PennantRopes();
                x.gap(0, gap);
                x.gap(1, other);
                for (int phase = 0; phase < gap; phase += gap - 1) {
                    for (int otherPhase = 0; otherPhase < other; otherPhase += other - 1) {
                        int place = 0;
                        while (place < 800 && (place % gap != phase || place % other != otherPhase)) {
                            place++;
                        }
                        meets(x, 0, phase, 1, otherPhase, place == 800 ? -1 : place);
                    }
                }
            }
        }
    }

    // ---- Changes of ropes

    @Sentence(of = "Changes of ropes", says = "A rope can be stretched to a greater length, or made shorter.")
    static void stretchedAndMadeShorterByOneAndByAll() {
        PennantRopes x = Check.played("r1,c0");
        x.stretch(0, 2);
        Check.sameText("by one", Check.look(x, 0), "c. c");
        x.stretch(0, 1);
        Check.sameText("shorter by one", Check.look(x, 0), "c c");
        x.stretch(0, 60);
        Check.sameText("by all", Check.look(x, 0), "c...".repeat(15) + " c");
        x.stretch(0, 59);
        Check.sameText("shorter by one again", Check.look(x, 0), "c...".repeat(14) + "c.. c");
        x.stretch(0, 1);
        Check.sameText("shorter by all", Check.look(x, 0), "c c");
        x.stretch(0, 1);
        Check.sameText("to the same", Check.look(x, 0), "c c");
    }

    @Sentence(of = "Changes of ropes", says = "All its hues go on to new places")
    static void theLastNewPlaceIsTakenByItsHue() {
        PennantRopes x = Check.played("r4,a1,c0");
        Check.sameText("before", Check.look(x, 0), "ca.a ac");
        x.stretch(0, 5);
        Check.sameText("one more for hue 2", Check.look(x, 0), "ca.ac ac");
        x.stretch(0, 6);
        Check.sameText("one more for hue 0", Check.look(x, 0), "ca.aca ac");
        x.stretch(0, 7);
        Check.sameText("one more hole", Check.look(x, 0), "ca.aca. ac");
        x.stretch(0, 60);
        Check.sameText("to the end", Check.look(x, 0), "ca.a".repeat(15) + " ac");
    }

    @Sentence(of = "Changes of ropes", says = "this is not possible, if two of them would take one place.")
    static void notUpToThePlaceWhereTwoMeet() {
        PennantRopes x = Check.played("r3,h0,g1");
        Check.fails("they meet at 9", x, Check.STATE, () -> x.stretch(0, 10));
        Check.fails("beyond it", x, Check.STATE, () -> x.stretch(0, 60));
        Check.same("place 9 is not there yet", x.stretch(0, 9), 0);
        Check.sameText("up to 8", Check.look(x, 0), "hg....... hg");
        Check.fails("one more", x, Check.STATE, () -> x.stretch(0, 10));
        Check.same("shorter", x.stretch(0, 2), 0);
        Check.same("with one of them alone", x.stretch(0, 1), 1);
        Check.same("to the end", x.stretch(0, 60), 0);
    }

    @Sentence(of = "Changes of ropes", says = "A hue that has no place any more is gone from the rope.")
    static void goneWithItsOnlyPlace() {
        PennantRopes x = Check.played("r9,h8,e0,f3,r9,h8");
        Check.sameText("before", Check.look(x, 0), "e..f..e.h hef");
        x.stretch(0, 8);
        Check.sameText("place 8 was the only one of hue 7", Check.look(x, 0), "e..f..e. ef");
        x.stretch(0, 4);
        Check.sameText("place 3 is there", Check.look(x, 0), "e..f ef");
        x.stretch(0, 3);
        Check.sameText("place 3 is not there", Check.look(x, 0), "e.. e");
        x.stretch(0, 9);
        Check.sameText("they stay gone", Check.look(x, 0), "e.....e.. e");
        Check.sameText("the other rope", Check.look(x, 1), "........h h");
        x.drop(1);
        Check.same("the gap of hue 7 can be changed", x.gap(7, 5), 9);
    }

    @Sentence(of = "Changes of ropes", says = "A rope can be cut ahead of a place, 1 to its length less 1")
    static void cutAheadOfTheSecondAndTheLastPlace() {
        PennantRopes one = Check.played("r1,a0");
        Check.failsWith("a rope of 1 ahead of", one, Check.ARGUMENT, place -> one.cut(0, place), -1, 0, 1, 2);
        PennantRopes two = Check.played("r2,a0");
        Check.failsWith("a rope of 2 ahead of", two, Check.ARGUMENT, place -> two.cut(0, place), -1, 0, 2);
        Check.same("a rope of 2 ahead of 1", two.cut(0, 1), 1);
        Check.sameText("both parts", Check.looks(two), "a a/. ");
        PennantRopes x = Check.played("r60,a1");
        Check.failsWith("a rope of 60 ahead of", x, Check.ARGUMENT, place -> x.cut(0, place), 0, 60);
        Check.same("ahead of 59", x.cut(0, 59), 1);
        Check.sameText("the last place", Check.look(x, 1), "a a");
        Check.same("ahead of 1", x.cut(0, 1), 2);
        Check.sameText("the first place", Check.look(x, 0), ". ");
        Check.same("all others", x.ropeOf(2, 0), 58);
    }

    @Sentence(of = "Changes of ropes", says = "it keeps the places ahead of that; the others make a new rope, behind all others.")
    static void theNewRopeIsBehindAllOthers() {
        PennantRopes x = Check.played("r5,b0,r2,r3");
        Check.same("the new rope", x.cut(0, 3), 3);
        Check.sameText("all ropes", Check.looks(x), "b.. b/.. /... /b. b");
    }

    @Sentence(of = "Changes of ropes", says = "On the new rope each hue has the places that it has there, in the same order of hues")
    static void bothPartsOfEachCut() {
        for (int place = 1; place < 12; place++) {
            PennantRopes x = Check.played("r12,f5,c0,d2,g3");
            Check.sameText("before", Check.look(x, 0), "c.dgcf.dc..g fcdg");
            x.cut(0, place);
            String front = "c.dgcf.dc..g".substring(0, place);
            String back = "c.dgcf.dc..g".substring(place);
            String due = front + " " + inOrder("fcdg", front) + "/" + back + " " + inOrder("fcdg", back);
            Check.sameText("ahead of " + place, Check.looks(x), due);
        }
    }

    /** The hues that have a place, in their order. */
    private static String inOrder(String order, String places) {
        StringBuilder hues = new StringBuilder();
        for (char hue : order.toCharArray()) {
            hues.append(places.indexOf(hue) < 0 ? "" : hue);
        }
        return hues.toString();
    }

    @Sentence(of = "Changes of ropes", says = "hues without places in a part are gone from it.")
    static void goneFromOnePartOrTheOther() {
        PennantRopes x = Check.played("r6,h5,g0,f3");
        x.cut(0, 3);
        Check.sameText("each on one part alone", Check.looks(x), "g.. g/f.h hf");
        x.cut(1, 1);
        Check.sameText("the place at the cut", Check.looks(x), "g.. g/f f/.h h");
        x.cut(0, 1);
        Check.sameText("a part without hues", Check.looks(x), "g g/f f/.h h/.. ");
    }

    @Sentence(of = "Changes of ropes", says = "A rope that is turned round has its places in the opposite order; hues keep their order.")
    static void turnedRopesOfEachLength() {
        for (int length = 1; length <= 60; length++) {
            PennantRopes x = new PennantRopes();
            x.rope(length);
            x.lay(0, 6, 0);
            if (length > 3) {
                x.lay(0, 2, 3);
            }
            String before = Check.look(x, 0);
            x.turn(0);
            String due = new StringBuilder(before.substring(0, length)).reverse() + before.substring(length);
            Check.sameText("length " + length, Check.look(x, 0), due);
        }
    }

    @Sentence(of = "Changes of ropes", says = "A rope is joined with another one: the other one's places come behind its own, and the other one is dropped.")
    static void joinedWithOneAheadAndOneBehind() {
        PennantRopes x = Check.played("r2,g0,r3,f2,r4,e3,r1,h0");
        Check.sameText("before", Check.looks(x), "g. g/..f f/...e e/h h");
        x.join(1, 2);
        Check.sameText("1 and 2", Check.looks(x), "g. g/e.f...e fe/h h");
        x.undo();
        x.join(2, 1);
        Check.sameText("2 and 1", Check.looks(x), "g. g/...e..f ef/h h");
        x.undo();
        x.join(3, 0);
        Check.sameText("3 and 0", Check.looks(x), "..f f/...e e/hg. hg");
        x.undo();
        x.join(0, 3);
        Check.sameText("0 and 3", Check.looks(x), "g.h gh/..f f/...e e");
    }

    @Sentence(of = "Changes of ropes", says = "The hues are those of the first one, in their order, and then those of the other one that the first one has not, in theirs.")
    static void orderOfHuesOfAJoin() {
        PennantRopes x = new PennantRopes();
        for (int hue = 0; hue < 8; hue++) {
            x.gap(hue, hue == 4 ? 10 : 20);
        }
        Check.same("parts", Check.play(x, "r10,h0,b1,e2,r10,f5,e2,a6"), 8);
        x.join(0, 1);
        Check.sameText("0 and 1", Check.looks(x), "hbe.........e..fa... hbefa");
        x.undo();
        x.join(1, 0);
        Check.sameText("1 and 0", Check.looks(x), "..e..fa...hbe....... feahb");
    }

    private static void joins(String text, int due) {
        PennantRopes x = Check.played(text);
        Check.same("joining of " + text, x.joining(0, 1), due);
        if (due == 0) {
            int length = x.ropeOf(0, 0) + x.ropeOf(1, 0);
            Check.same("join of " + text, x.join(0, 1), length);
        } else {
            Check.fails("join of " + text, x, Check.STATE, () -> x.join(0, 1));
        }
    }

    @Sentence(of = "Changes of ropes", says = "It is not possible for the first of these reasons that applies")
    static void theFirstReasonAgainstAJoinOfSeveral() {
        PennantRopes all = Check.played("r31,a0");
        Check.same("1 and 2", all.joining(0, 0), 1);
        PennantRopes three = Check.played("r3,a0");
        Check.same("1 and 3", three.joining(0, 0), 1);
        joins("r31,a0,r30,a0", 2);
        joins("r31,a0,r30,b0", 2);
        joins("r3,a0,b1,r3,a0,c1", 3);
    }

    @Sentence(of = "Changes of ropes", says = "1: both are the same")
    static void aRopeIsNotJoinedWithItself() {
        PennantRopes x = Check.played("r1,r1,r4,a0,r60");
        for (int each = 0; each < 4; each++) {
            int rope = each;
            Check.same("rope " + rope, x.joining(rope, rope), 1);
            Check.fails("rope " + rope, x, Check.STATE, () -> x.join(rope, rope));
        }
        Check.same("two that are alike", x.joining(0, 1), 0);
    }

    @Sentence(of = "Changes of ropes", says = "2: the length would be above 60")
    static void sixtyPlacesAnd61() {
        joins("r30,r30", 0);
        joins("r31,r30", 2);
        joins("r30,r31", 2);
        joins("r59,r1", 0);
        joins("r60,r1", 2);
        joins("r1,r59", 0);
        joins("r1,r60", 2);
        joins("r60,r60", 2);
    }

    @Sentence(of = "Changes of ropes", says = "3: some hue that both have would not come back at its gap where the ropes meet")
    static void oneTooSoonAndOneTooLate() {
        joins("r4,a0,r3,a0", 0);
        joins("r4,a0,r3,a1", 3);
        joins("r4,a1,r3,a0", 3);
        joins("r4,a1,r3,a1", 0);
        joins("r5,h0,r5,h4", 0);
        joins("r5,h0,r5,h3", 3);
        joins("r6,h0,r5,h4", 3);
        joins("r3,h2,r9,h8", 0);
        joins("r1,h0,r9,h8", 0);
        joins("r6,e1,c0,r6,c2,e1", 0);
        joins("r6,e1,c0,r6,c3,e1", 3);
        joins("r6,e1,c0,r6,c2,e0", 3);
    }

    @Sentence(of = "Changes of ropes", says = "4: with each hue going on over all the rope, by its gap from where it is, two of them would take one place.")
    static void theyMeetOnTheFirstOrTheLastPlace() {
        joins("r2,h0,r8,g7", 4);
        joins("r2,h0,r8,g6", 4);
        joins("r2,h0,r8,g5", 0);
        joins("r9,h0,g1,r1", 4);
        joins("r8,h0,g1,r1", 0);
        joins("r5,r4,b1,c3", 4);
        joins("r4,r4,b1,c3", 0);
    }

    @Sentence(of = "Changes of ropes", says = "(A hue that one of both has alone goes on over the other one, in both directions.)")
    static void overTheOtherPartInBothDirections() {
        PennantRopes x = Check.played("r4,a1,r4,c2");
        x.join(0, 1);
        Check.sameText("one behind, one ahead", Check.look(x, 0), ".aca.aca ac");
        PennantRopes first = Check.played("r1,r9,h8");
        first.join(0, 1);
        Check.sameText("back to the first place", Check.look(first, 0), "h........h h");
        PennantRopes none = Check.played("r1,r9,h7");
        none.join(0, 1);
        Check.sameText("not back so far", Check.look(none, 0), "........h. h");
        PennantRopes last = Check.played("r9,h0,r1");
        last.join(0, 1);
        Check.sameText("on to the last place", Check.look(last, 0), "h........h h");
        PennantRopes short1 = Check.played("r8,h0,r1");
        short1.join(0, 1);
        Check.sameText("not on so far", Check.look(short1, 0), "h........ h");
    }

    // ---- Holes

    @Sentence(of = "Holes", says = "A hue fits a rope, if it can be laid with some phase.")
    static void fitsByItsLastPhaseAlone() {
        PennantRopes x = Check.played("r3,h0,g1");
        Check.same("phases of hue 1", x.phases(0, 1, 0), 1);
        Check.same("the last one", x.phases(0, 1, 1), 2);
        Check.same("phases of hue 0", x.phases(0, 0, 0), 0);
        Check.same("phases of a hue that is laid", x.phases(0, 7, 0), 0);
        Check.same("the first one that fits", x.bestHue(0), 1);
        x.lay(0, 1, 2);
        Check.same("none fits", x.bestHue(0), -1);
    }

    @Sentence(of = "Holes", says = "It fills as many holes as it would take places.")
    static void holesThatAreFilled() {
        for (int hue = 0; hue < 8; hue++) {
            for (int phase = 0; phase < hue + 2; phase++) {
                PennantRopes x = new PennantRopes();
                x.rope(11);
                int holes = x.ropeOf(0, 2);
                if (phase < 11) {
                    int places = x.lay(0, hue, phase);
                    Check.same("holes of hue " + hue + " by " + phase, holes - x.ropeOf(0, 2), places);
                }
            }
        }
        PennantRopes y = Check.played("r9,a0");
        Check.same("two holes by hue 2 are the most", y.bestHue(0), 2);
        y.lay(0, 2, 1);
        Check.same("one hole by each: the lowest that fits", y.bestHue(0), 4);
    }

    @Sentence(of = "Holes", says = "The period of a rope is the least common multiple of the gaps of its hues")
    static void periodsUpToTheGreatest() {
        PennantRopes x = new PennantRopes();
        int[] gaps = {9, 7, 5, 11, 13, 16, 17, 19};
        int[] phases = {0, 2, 4, 1, 3, 5, 6, 7};
        int[] due = {9, 63, 315, 3465, 45045, 720720, 12252240, 232792560};
        x.rope(9);
        for (int hue = 0; hue < 8; hue++) {
            x.gap(hue, gaps[hue]);
            x.lay(0, hue, phases[hue]);
            Check.same("hues: " + (hue + 1), x.ropeOf(0, 5), due[hue]);
        }
        PennantRopes y = Check.played("r9,c0,e1");
        Check.same("4 and 6", y.ropeOf(0, 5), 12);
        PennantRopes z = Check.played("r9,c0,g1");
        Check.same("4 and 8", z.ropeOf(0, 5), 8);
        PennantRopes same = new PennantRopes();
        same.gap(0, 4);
        Check.play(same, "r9,c0,a1");
        Check.same("4 and 4", same.ropeOf(0, 5), 4);
    }

    @Sentence(of = "Holes", says = "(1 without hues).")
    static void periodWithoutHues() {
        PennantRopes x = Check.played("r5");
        Check.same("a new rope", x.ropeOf(0, 5), 1);
        x.lay(0, 6, 4);
        Check.same("with one hue", x.ropeOf(0, 5), 8);
        x.stretch(0, 4);
        Check.same("it is gone", x.ropeOf(0, 5), 1);
        x.lay(0, 6, 3);
        x.take(0, 6);
        Check.same("it is taken off", x.ropeOf(0, 5), 1);
    }

    // ---- Input text

    private static void error(String text, int due) {
        PennantRopes x = new PennantRopes();
        Check.write(x, text);
        Check.same("firstError of " + text, x.firstError(), due);
        Check.fails("play of " + text, x, Check.ARGUMENT, x::play);
    }

    private static void right(String text) {
        PennantRopes x = new PennantRopes();
        Check.write(x, text);
        Check.same("firstError of " + text, x.firstError(), text.length());
        x.play();
        Check.same("saved states behind " + text, x.count(7), 1);
    }

    @Sentence(of = "Input text", says = "The buffer has at most 60 characters.")
    static void sixtyCharactersAndNo61st() {
        PennantRopes x = new PennantRopes();
        Check.write(x, "r1," + "<,".repeat(28) + "r");
        Check.fails("a 61st one", x, Check.STATE, () -> x.append('1'));
        Check.same("60", x.clearBuffer(), 60);
    }

    @Sentence(of = "Input text", says = "Ropes as a text are one or more parts with \",\" between them")
    static void oneOrMoreParts() {
        error("", 0);
        right("<");
        right("r1,<");
        right("<" + ",<".repeat(29));
        error(",", 0);
        error(",<", 0);
        error("<,", 2);
        error("<,,<", 2);
        error("<;<", 1);
        error("<<", 1);
        error("r1a0", 2);
        error("a0a0", 2);
        error("-a<", 2);
    }

    @Sentence(of = "Input text", says = "\"r\" and a length, 1 to 60 (a new rope)")
    static void lengthsInTexts() {
        error("r", 1);
        error("r,", 1);
        error("r0", 1);
        error("r61", 2);
        error("r70", 2);
        error("r100", 3);
        error("R1", 0);
        for (int length = 1; length <= 60; length++) {
            right("r" + length);
            right("r" + length + ",r" + length);
            PennantRopes x = Check.played("r" + length);
            Check.same("length", x.ropeOf(0, 0), length);
        }
    }

    @Sentence(of = "Input text", says = "a hue, \"a\" to \"h\" (0 to 7), and a phase, 0 to 19")
    static void huesAndPhasesInTexts() {
        error("`0", 0);
        error("i0", 0);
        error("A0", 0);
        error("a", 1);
        error("a,", 1);
        error("ab", 1);
        error("h20", 2);
        error("h30", 2);
        error("h100", 3);
        for (int hue = 0; hue < 8; hue++) {
            for (int phase = 0; phase < 20; phase++) {
                String part = "" + (char) ('a' + hue) + phase;
                right(part);
                right(part + "," + part);
                PennantRopes x = new PennantRopes();
                x.gap(hue, 20);
                Check.same("parts of " + part, Check.play(x, "r20," + part), 2);
                Check.same("hue of " + part, x.place(0, phase), hue);
            }
        }
    }

    @Sentence(of = "Input text", says = "(it is laid on the last rope, that is the one with the highest number)")
    static void laidOnTheLastRope() {
        PennantRopes x = Check.played("r3,r2,r1");
        Check.same("the last one of three", Check.play(x, "g0"), 1);
        Check.sameText("all", Check.looks(x), "... /.. /g g");
        x.drop(2);
        Check.same("the last one of two", Check.play(x, "h1"), 1);
        Check.sameText("all", Check.looks(x), "... /.h h");
        x.cut(0, 1);
        Check.same("the one that was cut off", Check.play(x, "h0"), 1);
        Check.sameText("all", Check.looks(x), ". /.h h/h. h");
    }

    @Sentence(of = "Input text", says = "\"-\" and a hue, \"a\" to \"h\" (it is taken off the last rope)")
    static void takenOffTheLastRope() {
        error("-", 1);
        error("-`", 1);
        error("-i", 1);
        error("-A", 1);
        error("-0", 1);
        error("-a0", 2);
        for (int hue = 0; hue < 8; hue++) {
            String letter = "" + (char) ('a' + hue);
            PennantRopes x = Check.played("r1," + letter + "0,r1," + letter + "0");
            Check.same("taken off: " + letter, Check.play(x, "-" + letter), 1);
            Check.sameText("it is on the first rope alone", Check.looks(x), letter + " " + letter + "/. ");
        }
    }

    @Sentence(of = "Input text", says = "or \"<\" (the last rope is turned round)")
    static void theLastRopeIsTurnedRound() {
        PennantRopes x = Check.played("r2,h0,r3,h0");
        Check.same("parts", Check.play(x, "<"), 1);
        Check.sameText("the last one", Check.looks(x), "h. h/..h h");
        error(">", 0);
        error("<0", 1);
        error("<a", 1);
    }

    @Sentence(of = "Input text", says = "numbers without a leading zero.")
    static void noLeadingZero() {
        error("r01", 1);
        error("r060", 1);
        error("a00", 2);
        error("a01", 2);
        error("h019", 2);
        right("a0");
        right("a10");
        right("r10");
    }

    /** The characters behind a text that some ropes as a text begin with. */
    private static void goesOnWith(String text, String right) {
        for (int code = 33; code <= 126; code++) {
            PennantRopes x = new PennantRopes();
            Check.write(x, text);
            x.append(code);
            int due = text.length() + (right.indexOf(code) < 0 ? 0 : 1);
            Check.same("firstError of " + text + (char) code, x.firstError(), due);
        }
    }

    @Sentence(of = "Input text", says = "a character is a syntax error if no ropes as a text, of any length, begin with the characters before it and this character.")
    static void eachCharacterOnEachPlace() {
        for (String ahead : new String[] {"", "r60,", "h19,", "-h,", "<,"}) {
            goesOnWith(ahead, "rabcdefgh-<");
            goesOnWith(ahead + "r", "123456789");
            goesOnWith(ahead + "r1", "0123456789,");
            goesOnWith(ahead + "r5", "0123456789,");
            goesOnWith(ahead + "r6", "0,");
            goesOnWith(ahead + "r7", ",");
            goesOnWith(ahead + "r9", ",");
            goesOnWith(ahead + "r10", ",");
            goesOnWith(ahead + "r59", ",");
            goesOnWith(ahead + "r60", ",");
            goesOnWith(ahead + "a", "0123456789");
            goesOnWith(ahead + "h", "0123456789");
            goesOnWith(ahead + "a0", ",");
            goesOnWith(ahead + "a1", "0123456789,");
            goesOnWith(ahead + "a2", ",");
            goesOnWith(ahead + "a9", ",");
            goesOnWith(ahead + "a10", ",");
            goesOnWith(ahead + "h19", ",");
            goesOnWith(ahead + "-", "abcdefgh");
            goesOnWith(ahead + "-a", ",");
            goesOnWith(ahead + "-h", ",");
            goesOnWith(ahead + "<", ",");
        }
    }

    @Sentence(of = "Input text", says = "The buffer is read from left to right")
    static void errorsAtTheEndOfAFullBuffer() {
        String most = "r1," + "<,".repeat(28);
        error(most + "i", 59);
        error(most + ",", 59);
        error(most + "r", 60);
        error(most + "h", 60);
        error(most + "-", 60);
        right(most + "<");
        error("<,".repeat(30), 60);
        right("<,".repeat(29) + "r6");
        error("<,".repeat(29) + "r0", 59);
        error("!" + "<".repeat(59), 0);
        error("r5!r0", 2);
        error("a20,r0", 2);
    }

    // ---- Undo, the snapshot

    @Sentence(of = "Undo, the snapshot", says = "saves the state from before it (also if it changes nothing)")
    static void callsThatChangeNothingAreSaved() {
        PennantRopes x = Check.played("r5,c0,r1");
        Check.undone("gap, the same", x, () -> x.gap(0, 2));
        Check.undone("stretch, the same", x, () -> x.stretch(0, 5));
        Check.undone("turn, the same", x, () -> x.turn(0));
        Check.undone("play of nothing", x, () -> Check.play(x, "c0"));
        Check.undone("restore of the same", x, () -> {
            x.keep();
            return x.restore();
        });
    }

    @Sentence(of = "Undo, the snapshot", says = "Each method that is marked \"undoable\" and does not throw an exception")
    static void callsThatThrowAreNotSaved() {
        PennantRopes x = Check.played("r5,c0,r56");
        Check.fails("gap", x, Check.STATE, () -> x.gap(2, 5));
        Check.fails("rope", x, Check.ARGUMENT, () -> x.rope(61));
        Check.fails("drop", x, Check.INDEX, () -> x.drop(2));
        Check.fails("lay", x, Check.STATE, () -> x.lay(0, 2, 1));
        Check.fails("take", x, Check.STATE, () -> x.take(1, 2));
        Check.fails("stretch", x, Check.ARGUMENT, () -> x.stretch(0, 0));
        Check.fails("cut", x, Check.ARGUMENT, () -> x.cut(0, 5));
        Check.fails("turn", x, Check.INDEX, () -> x.turn(2));
        Check.fails("join", x, Check.STATE, () -> x.join(0, 1));
        Check.fails("play", x, Check.ARGUMENT, x::play);
        Check.fails("restore", x, Check.STATE, x::restore);
        Check.same("saved states", x.count(7), 1);
        Check.same("undo", x.undo(), 0);
        Check.same("ropes", x.count(0), 0);
    }

    @Sentence(of = "Undo, the snapshot", says = "all, also what is counted so far")
    static void undoBringsBackAll() {
        PennantRopes x = Check.played("r9,h0,g1,r5,e2,r7,a0");
        x.gap(5, 13);
        x.cut(0, 4);
        x.join(0, 3);
        String ropes = Check.looks(x);
        Check.sameText("ropes", ropes, "hg....... hg/..e.. e/a.a.a.a a");
        x.drop(1);
        Check.play(x, "-a,c0,r5,f0,<");
        x.turn(0);
        x.cut(2, 1);
        x.join(0, 3);
        x.take(0, 5);
        Check.same("layings then", x.count(4), 6);
        Check.same("joins then", x.count(5), 2);
        Check.same("cuts then", x.count(6), 2);
        for (int left = 5; left >= 0; left--) {
            Check.same("undo", x.undo(), left);
        }
        Check.sameText("ropes again", Check.looks(x), ropes);
        Check.same("layings", x.count(4), 4);
        Check.same("joins", x.count(5), 1);
        Check.same("cuts", x.count(6), 1);
        Check.same("gap", x.gapOf(5), 13);
    }

    @Sentence(of = "Undo, the snapshot", says = "but the buffer, the saved states and the snapshot.")
    static void undoLeavesBufferAndSnapshot() {
        PennantRopes x = new PennantRopes();
        x.rope(3);
        Check.write(x, "r5");
        x.keep();
        Check.same("undo", x.undo(), 0);
        Check.same("the buffer stays", x.firstError(), 2);
        Check.same("the snapshot stays", x.restore(), 1);
        Check.same("its length", x.ropeOf(0, 0), 3);
        Check.same("undo of that", x.undo(), 0);
        Check.same("play", x.play(), 1);
        Check.same("undo of that", x.undo(), 0);
        Check.same("the buffer stays cleared", x.clearBuffer(), 0);
    }

    @Sentence(of = "Undo, the snapshot", says = "At most 6 states are saved; the oldest one is dropped first.")
    static void sixStatesAndTheSeventh() {
        PennantRopes x = new PennantRopes();
        for (int gap = 10; gap < 16; gap++) {
            x.gap(0, gap);
        }
        Check.same("six", x.count(7), 6);
        x.gap(0, 16);
        Check.same("six still", x.count(7), 6);
        for (int left = 5; left >= 0; left--) {
            Check.same("undo", x.undo(), left);
            Check.same("gap", x.gapOf(0), 10 + left);
        }
        Check.fails("the oldest one is dropped", x, Check.STATE, x::undo);
        for (int gap = 2; gap <= 20; gap++) {
            x.gap(0, gap);
        }
        for (int left = 5; left >= 0; left--) {
            Check.same("undo again", x.undo(), left);
            Check.same("gap", x.gapOf(0), 14 + left);
        }
    }

    // ---- Exceptions

    private static PennantRopes twin() {
        PennantRopes x = Check.played("r9,h0,g1,r56,r7,a0");
        x.keep();
        x.gap(5, 13);
        x.turn(2);
        x.rope(3);
        x.lay(3, 5, 2);
        Check.write(x, "<,r1,");
        return x;
    }

    private static void failAll(PennantRopes x) {
        Check.fails("gap", x, Check.STATE, () -> x.gap(5, 2));
        Check.fails("rope", x, Check.STATE, () -> x.rope(6));
        Check.fails("drop", x, Check.INDEX, () -> x.drop(4));
        Check.fails("lay", x, Check.STATE, () -> x.lay(0, 7, 1));
        Check.fails("lay on a taken place", x, Check.STATE, () -> x.lay(0, 0, 0));
        Check.fails("take", x, Check.STATE, () -> x.take(1, 0));
        Check.fails("stretch", x, Check.STATE, () -> x.stretch(0, 20));
        Check.fails("cut", x, Check.STATE, () -> x.cut(0, 3));
        Check.fails("turn", x, Check.INDEX, () -> x.turn(-1));
        Check.fails("join", x, Check.STATE, () -> x.join(0, 1));
        Check.fails("join where two meet", x, Check.STATE, () -> x.join(0, 3));
        Check.fails("append", x, Check.ARGUMENT, () -> x.append(127));
        Check.fails("play", x, Check.ARGUMENT, x::play);
        Check.fails("place", x, Check.INDEX, () -> x.place(0, 9));
        Check.fails("refusal", x, Check.ARGUMENT, () -> x.refusal(0, 0, 2));
    }

    @Sentence(of = "Exceptions", says = "A call that throws an exception changes nothing.")
    static void failedCallsLeaveNothingBehind() {
        PennantRopes x = twin();
        PennantRopes y = twin();
        failAll(x);
        Check.same("the state", x.digest(), y.digest());
        while (y.count(7) > 0) {
            Check.same("undo", x.undo(), y.undo());
            Check.same("a saved state", x.digest(), y.digest());
        }
        Check.same("restore", x.restore(), y.restore());
        Check.same("the snapshot", x.digest(), y.digest());
        Check.write(x, "r2");
        Check.same("the buffer: the fourth rope is the last one", x.play(), 2);
    }

    @Sentence(of = "Exceptions", says = "If several exceptions apply, the one that is named first in the throws clause is thrown.")
    static void theExceptionThatIsNamedFirst() {
        PennantRopes x = Check.played("r9,h0,g1,r3,a0,r3,a0,r60");
        Check.write(x, "<".repeat(60));
        Check.fails("gap: index, argument", x, Check.INDEX, () -> x.gap(8, 21));
        Check.fails("gap: argument, state", x, Check.ARGUMENT, () -> x.gap(7, 21));
        Check.fails("rope: argument, state", x, Check.ARGUMENT, () -> x.rope(61));
        Check.fails("lay: index, argument", x, Check.INDEX, () -> x.lay(4, 0, 2));
        Check.fails("lay: index of the hue, argument", x, Check.INDEX, () -> x.lay(0, 8, -1));
        Check.fails("lay: argument, state", x, Check.ARGUMENT, () -> x.lay(0, 7, 9));
        Check.fails("take: index of the hue, state", x, Check.INDEX, () -> x.take(0, 8));
        Check.fails("stretch: index, argument", x, Check.INDEX, () -> x.stretch(4, 61));
        Check.fails("stretch: argument, state", x, Check.ARGUMENT, () -> x.stretch(0, 61));
        Check.fails("cut: index, argument, state", x, Check.INDEX, () -> x.cut(4, 0));
        Check.fails("cut: index, state", x, Check.INDEX, () -> x.cut(-1, 1));
        Check.fails("cut: argument, state", x, Check.ARGUMENT, () -> x.cut(0, 9));
        Check.fails("join: index, state", x, Check.INDEX, () -> x.join(4, 4));
        Check.fails("join: index of the other, state", x, Check.INDEX, () -> x.join(3, 4));
        Check.fails("append: argument, state", x, Check.ARGUMENT, () -> x.append(32));
        Check.fails("ropeOf: index, argument", x, Check.INDEX, () -> x.ropeOf(4, 6));
        Check.fails("hueOf: index, argument", x, Check.INDEX, () -> x.hueOf(4, 0, 4));
        Check.fails("hueOf: index of the hue, argument", x, Check.INDEX, () -> x.hueOf(0, 8, 4));
        Check.fails("refusal: index, argument", x, Check.INDEX, () -> x.refusal(4, 0, 2));
        Check.fails("refusal: index of the hue, argument", x, Check.INDEX, () -> x.refusal(0, 8, -1));
        Check.fails("meeting: argument, index of the other", x, Check.INDEX, () -> x.meeting(0, 2, 8, 0));
        Check.fails("meeting: index, argument of the other", x, Check.INDEX, () -> x.meeting(8, 0, 0, 2));
        Check.fails("walked: argument, index of the other", x, Check.INDEX, () -> x.walked(0, 2, 8, 0));
        Check.fails("walked: index, argument of the other", x, Check.INDEX, () -> x.walked(8, 0, 0, 2));
        Check.fails("phases: index, argument", x, Check.INDEX, () -> x.phases(4, 0, 3));
        Check.fails("phases: index of the hue, argument", x, Check.INDEX, () -> x.phases(0, 8, 3));
    }

    @Sentence(of = "Exceptions", says = "The constants: `NONE = -1`: There is nothing to return.")
    static void noneIsReturned() {
        PennantRopes x = Check.played("r2,h0,g1,r1");
        Check.same("NONE", PennantRopes.NONE, -1);
        Check.same("place", x.place(1, 0), -1);
        Check.same("the first hole of a full rope", x.ropeOf(0, 3), -1);
        for (int what = 0; what < 4; what++) {
            Check.same("hueOf " + what, x.hueOf(1, 7, what), -1);
        }
        Check.same("meeting", x.meeting(0, 0, 0, 1), -1);
        Check.same("walked", x.walked(0, 0, 0, 1), -1);
        Check.same("the lowest phase", x.phases(0, 0, 1), -1);
        Check.same("the phase with the most places", x.phases(0, 0, 2), -1);
        Check.same("bestHue", x.bestHue(0), -1);
    }
}
