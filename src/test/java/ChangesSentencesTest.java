/** The sentences of the promises 7 to 10, each with a test of its own. */
final class ChangesSentencesTest {
    public static void main(String[] args) {
        Check.sentences(ChangesSentencesTest.class);
    }

    // ---- Promise 7: stretch

    @Sentence(of = "Promise 7", says = "Changes the length of a rope.")
    static void stretchedToEachLengthFromEach() {
        for (int from = 1; from <= 60; from++) {
            for (int to = 1; to <= 60; to++) {
                PennantRopes x = new PennantRopes();
                x.rope(from);
                x.rope(7);
                x.lay(0, 1, 0);
                x.stretch(0, to);
                String what = from + " to " + to;
                Check.same("length, " + what, x.ropeOf(0, 0), to);
                Check.same("places of hue 1, " + what, x.hueOf(0, 1, 1), (to + 2) / 3);
                Check.same("the other rope, " + what, x.ropeOf(1, 0), 7);
            }
        }
    }

    @Sentence(of = "Promise 7", says = "Undoable.")
    static void stretchIsUndone() {
        PennantRopes x = Check.played("r9,h8,c1,g2");
        Check.sameText("before", Check.look(x, 0), ".cg..c..h hcg");
        Check.undone("longer", x, () -> x.stretch(0, 10));
        Check.undone("the same", x, () -> x.stretch(0, 9));
        Check.undone("a hue gone", x, () -> x.stretch(0, 8));
        Check.undone("all hues gone", x, () -> x.stretch(0, 1));
        Check.sameText("as before", Check.look(x, 0), ".cg..c..h hcg");
    }

    @Sentence(of = "Promise 7", says = "`rope`: its number")
    static void stretchEachRope() {
        PennantRopes x = Check.played("r1,r1,r1,r1");
        for (int rope = 0; rope < 4; rope++) {
            x.stretch(rope, 10 + rope);
            Check.same("length of rope " + rope, x.ropeOf(rope, 0), 10 + rope);
            Check.same("all places", x.count(1), 4 + 9 * (rope + 1) + rope * (rope + 1) / 2);
        }
    }

    @Sentence(of = "Promise 7", says = "`length`: 1 to 60")
    static void stretchTo1AndTo60() {
        PennantRopes x = Check.played("r30,b0");
        Check.same("to 60", x.stretch(0, 60), 0);
        Check.same("length", x.ropeOf(0, 0), 60);
        Check.same("place 57", x.place(0, 57), 1);
        Check.same("to 1", x.stretch(0, 1), 0);
        Check.same("length", x.ropeOf(0, 0), 1);
        Check.same("place 0", x.place(0, 0), 1);
    }

    @Sentence(of = "Promise 7", says = "Returns how many hues are gone from it.")
    static void huesThatAreGone() {
        PennantRopes x = new PennantRopes();
        x.rope(8);
        for (int hue = 0; hue < 8; hue++) {
            x.gap(hue, 20);
            x.lay(0, hue, hue);
        }
        Check.same("none by the same length", x.stretch(0, 8), 0);
        Check.same("none by a greater length", x.stretch(0, 28), 0);
        Check.same("hue 0 has a second place", x.hueOf(0, 0, 1), 2);
        Check.same("none by a length that leaves the first places", x.stretch(0, 8), 0);
        Check.same("one", x.stretch(0, 7), 1);
        Check.same("two", x.stretch(0, 5), 2);
        Check.same("all but the first", x.stretch(0, 1), 4);
        Check.sameText("the first one", Check.look(x, 0), "a a");
        PennantRopes all = Check.played("r5,h4,g3");
        Check.same("all", all.stretch(0, 3), 2);
        Check.sameText("none is left", Check.look(all, 0), "... ");
    }

    @Sentence(of = "Promise 7", says = "Throws `IndexOutOfBoundsException` if there is no such rope")
    static void stretchWithoutRope() {
        PennantRopes x = new PennantRopes();
        Check.failsWith("no ropes, rope", x, Check.INDEX, rope -> x.stretch(rope, 5), -1, 0);
        Check.play(x, "r5,r5");
        Check.failsWith("rope", x, Check.INDEX, rope -> x.stretch(rope, 5), -1, 2);
        Check.failsWith("to 61, rope", x, Check.INDEX, rope -> x.stretch(rope, 61), -1, 2);
    }

    @Sentence(of = "Promise 7", says = "Throws `IllegalArgumentException` if length is out of range")
    static void stretchOutOfRange() {
        PennantRopes x = Check.played("r3,h0,g1");
        Check.failsWith("length", x, Check.ARGUMENT, length -> x.stretch(0, length), -1, 0, 61);
        Check.play(x, "r60");
        Check.failsWith("length from 60", x, Check.ARGUMENT, length -> x.stretch(1, length), -1, 0, 61);
    }

    @Sentence(of = "Promise 7", says = "Throws `IllegalStateException` if two hues would take one place")
    static void stretchWhereTwoMeet() {
        for (int first = 2; first <= 20; first++) {
            for (int second = 2; second <= 20; second++) {
                PennantRopes x = new PennantRopes();
                x.gap(0, first);
                x.gap(1, second);
                x.rope(2);
                x.lay(0, 0, 0);
                x.lay(0, 1, 1);
                int meeting = x.meeting(0, 0, 1, 1);
                String what = first + " and " + second;
                if (meeting >= 0 && meeting < 60) {
                    Check.fails("up to their place, " + what, x, Check.STATE, () -> x.stretch(0, meeting + 1));
                    Check.fails("to 60, " + what, x, Check.STATE, () -> x.stretch(0, 60));
                    Check.same("up to the place ahead, " + what, x.stretch(0, meeting), 0);
                } else {
                    Check.same("they do not meet, " + what, x.stretch(0, 60), 0);
                }
            }
        }
        PennantRopes last = new PennantRopes();
        last.gap(6, 19);
        last.gap(7, 20);
        Check.play(last, "r20,h19,g2");
        Check.fails("they meet on place 59", last, Check.STATE, () -> last.stretch(0, 60));
        Check.same("59", last.stretch(0, 59), 0);
        Check.same("a gone hue meets none", last.stretch(0, 19), 1);
        Check.same("60", last.stretch(0, 60), 0);
    }

    // ---- Promise 8: cut

    @Sentence(of = "Promise 8", says = "Cuts a rope.")
    static void eachCutOfEachLength() {
        for (int length = 2; length <= 60; length++) {
            for (int place = 1; place < length; place++) {
                PennantRopes x = new PennantRopes();
                x.rope(length);
                x.lay(0, 3, 0);
                String before = Check.look(x, 0);
                x.cut(0, place);
                String back = before.substring(place, length);
                String what = length + " ahead of " + place;
                Check.sameText(what, Check.look(x, 0), before.substring(0, place) + " d");
                Check.sameText("behind, " + what, Check.look(x, 1), back + (back.contains("d") ? " d" : " "));
                Check.same("cuts", x.count(6), 1);
            }
        }
    }

    @Sentence(of = "Promise 8", says = "Undoable.")
    static void cutIsUndone() {
        PennantRopes x = Check.played("r6,h5,g0,f3,r2");
        for (int place = 1; place < 6; place++) {
            int each = place;
            Check.undone("cut ahead of " + place, x, () -> x.cut(0, each));
            Check.same("cuts", x.count(6), 0);
        }
        Check.sameText("as before", Check.looks(x), "g..f.h hgf/.. ");
    }

    @Sentence(of = "Promise 8", says = "`rope`: its number")
    static void cutEachRope() {
        for (int rope = 0; rope < 3; rope++) {
            PennantRopes x = Check.played("r5,r6,r7");
            Check.same("rope " + rope, x.cut(rope, 2), 3);
            for (int other = 0; other < 3; other++) {
                Check.same("length of " + other, x.ropeOf(other, 0), other == rope ? 2 : 5 + other);
            }
            Check.same("length of the new one", x.ropeOf(3, 0), 3 + rope);
        }
    }

    @Sentence(of = "Promise 8", says = "`place`: 1 to its length less 1")
    static void cutAheadOf1AndOfTheLast() {
        PennantRopes x = Check.played("r60,a1");
        Check.same("1", x.cut(0, 1), 1);
        Check.same("59 others", x.ropeOf(1, 0), 59);
        Check.same("their last one", x.cut(1, 58), 2);
        Check.sameText("alone", Check.look(x, 2), "a a");
        PennantRopes two = Check.played("r2");
        Check.same("1 of 2", two.cut(0, 1), 1);
    }

    @Sentence(of = "Promise 8", says = "Returns the number of the new rope.")
    static void numberOfTheRopeThatIsCutOff() {
        PennantRopes x = Check.played("r4");
        Check.same("the second one", x.cut(0, 3), 1);
        Check.same("the third one", x.cut(0, 2), 2);
        Check.same("the fourth one", x.cut(0, 1), 3);
        Check.same("ropes", x.count(0), 4);
        x.drop(0);
        x.stretch(0, 2);
        Check.same("the fourth one again", x.cut(0, 1), 3);
    }

    @Sentence(of = "Promise 8", says = "Throws `IndexOutOfBoundsException` if there is no such rope")
    static void cutWithoutRope() {
        PennantRopes x = new PennantRopes();
        Check.failsWith("no ropes, rope", x, Check.INDEX, rope -> x.cut(rope, 1), -1, 0);
        Check.play(x, "r5,r5");
        Check.failsWith("rope", x, Check.INDEX, rope -> x.cut(rope, 1), -1, 2);
        Check.failsWith("ahead of 0, rope", x, Check.INDEX, rope -> x.cut(rope, 0), -1, 2);
        Check.play(x, "r5,r5");
        Check.failsWith("of 4, rope", x, Check.INDEX, rope -> x.cut(rope, 1), -1, 4);
    }

    @Sentence(of = "Promise 8", says = "Throws `IllegalArgumentException` if place is out of range")
    static void cutOutOfRange() {
        PennantRopes x = Check.played("r1,r2,r60");
        Check.failsWith("1 ahead of", x, Check.ARGUMENT, place -> x.cut(0, place), -1, 0, 1);
        Check.failsWith("2 ahead of", x, Check.ARGUMENT, place -> x.cut(1, place), -1, 0, 2, 3);
        Check.failsWith("60 ahead of", x, Check.ARGUMENT, place -> x.cut(2, place), -1, 0, 60, 61);
        x.rope(1);
        Check.failsWith("4 ropes, 60 ahead of", x, Check.ARGUMENT, place -> x.cut(2, place), -1, 0, 60, 61);
    }

    @Sentence(of = "Promise 8", says = "Throws `IllegalStateException` if there are 4 ropes")
    static void cutOfOneOf4() {
        PennantRopes x = Check.played("r5,r5,r5,r5");
        for (int each = 0; each < 4; each++) {
            int rope = each;
            Check.fails("rope " + rope + " ahead of 1", x, Check.STATE, () -> x.cut(rope, 1));
            Check.fails("rope " + rope + " ahead of 4", x, Check.STATE, () -> x.cut(rope, 4));
        }
        x.drop(3);
        Check.same("one of 3", x.cut(2, 4), 3);
        Check.same("cuts", x.count(6), 1);
    }

    // ---- Promise 9: turn

    @Sentence(of = "Promise 9", says = "Turns a rope round.")
    static void turnedOneRopeAlone() {
        PennantRopes x = Check.played("r6,h0,c1,g3,r2,h0,r1,h0");
        Check.sameText("before", Check.look(x, 0), "hc.g.c hcg");
        x.turn(0);
        Check.sameText("rope 0", Check.looks(x), "c.g.ch hcg/h. h/h h");
        x.turn(1);
        Check.sameText("rope 1", Check.looks(x), "c.g.ch hcg/.h h/h h");
        x.turn(2);
        Check.sameText("one place", Check.looks(x), "c.g.ch hcg/.h h/h h");
        Check.same("phase of hue 6", x.hueOf(0, 6, 0), 2);
        x.turn(0);
        Check.sameText("turned back", Check.look(x, 0), "hc.g.c hcg");
    }

    @Sentence(of = "Promise 9", says = "Undoable.")
    static void turnIsUndone() {
        PennantRopes x = Check.played("r6,h0,c1,g3,r1,r5,c0");
        Check.undone("rope 0", x, () -> x.turn(0));
        Check.undone("one place", x, () -> x.turn(1));
        Check.undone("the same both ways", x, () -> x.turn(2));
    }

    @Sentence(of = "Promise 9", says = "`rope`: its number")
    static void turnEachRope() {
        for (int rope = 0; rope < 4; rope++) {
            PennantRopes x = Check.played("r2,h0,r2,h0,r2,h0,r2,h0");
            Check.same("rope " + rope, x.turn(rope), 2);
            for (int other = 0; other < 4; other++) {
                Check.sameText("rope " + other, Check.look(x, other), other == rope ? ".h h" : "h. h");
            }
        }
    }

    private static void turns(String text, int due) {
        PennantRopes x = Check.played(text);
        Check.same("turn of " + text, x.turn(0), due);
        Check.same("turn back of " + text, x.turn(0), due);
    }

    @Sentence(of = "Promise 9", says = "Returns how many of its places have another hue then, or are free then, or not free any more.")
    static void placesThatAreNotAsBefore() {
        turns("r1", 0);
        turns("r1,a0", 0);
        turns("r60", 0);
        turns("r59,a0", 0);
        turns("r60,a0", 60);
        turns("r2,h0", 2);
        turns("r2,h0,g1", 2);
        turns("r3,h0,g1", 2);
        turns("r3,h0,g2", 2);
        turns("r3,h1", 0);
        turns("r3,g0,f1,h2", 2);
        turns("r4,g0,f1,h2", 4);
        turns("r4,a0,c1", 4);
        turns("r5,a0,c1", 2);
        turns("r60,b0", 40);
    }

    @Sentence(of = "Promise 9", says = "Throws `IndexOutOfBoundsException` if there is no such rope")
    static void turnWithoutRope() {
        PennantRopes x = new PennantRopes();
        Check.failsWith("no ropes, rope", x, Check.INDEX, x::turn, -1, 0);
        Check.play(x, "r5,r5,r5,r5");
        Check.failsWith("of 4, rope", x, Check.INDEX, x::turn, -1, 4);
        x.drop(0);
        Check.failsWith("of 3, rope", x, Check.INDEX, x::turn, -1, 3);
    }

    // ---- Promise 10: join

    @Sentence(of = "Promise 10", says = "Joins a rope with another one.")
    static void eachTwoOfFourRopes() {
        String[] looks = {"h h", ".g. g", "..f.. f", "...e... e"};
        for (int rope = 0; rope < 4; rope++) {
            for (int other = 0; other < 4; other++) {
                if (other == rope) {
                    continue;
                }
                PennantRopes x = new PennantRopes();
                for (int hue = 4; hue < 8; hue++) {
                    x.gap(hue, 20);
                }
                Check.same("parts", Check.play(x, "r1,h0,r3,g1,r5,f2,r7,e3"), 8);
                int length = x.join(rope, other);
                int joined = rope > other ? rope - 1 : rope;
                Check.same("length of " + rope + " and " + other, x.ropeOf(joined, 0), length);
                Check.same("hues of it", x.ropeOf(joined, 1), 2);
                Check.same("joins", x.count(5), 1);
                StringBuilder due = new StringBuilder();
                StringBuilder got = new StringBuilder();
                for (int third = 0; third < 4; third++) {
                    due.append(third == rope || third == other ? "" : looks[third]);
                }
                for (int third = 0; third < 3; third++) {
                    got.append(third == joined ? "" : Check.look(x, third));
                }
                Check.sameText("the ropes beside " + rope + " and " + other, got.toString(), due.toString());
            }
        }
    }

    @Sentence(of = "Promise 10", says = "Undoable.")
    static void joinIsUndone() {
        PennantRopes x = Check.played("r4,a1,r4,c2,r1,h0");
        Check.undone("0 and 1", x, () -> x.join(0, 1));
        Check.undone("1 and 2", x, () -> x.join(1, 2));
        Check.undone("2 and 0", x, () -> x.join(2, 1));
        Check.same("joins", x.count(5), 0);
        Check.sameText("as before", Check.looks(x), ".a.a a/..c. c/h h");
    }

    @Sentence(of = "Promise 10", says = "`rope`: its number")
    static void joinTheFirstAndTheLastRope() {
        PennantRopes x = Check.played("r1,r2,r3,r4");
        Check.same("the first one", x.join(0, 1), 3);
        x.undo();
        Check.same("the last one", x.join(3, 1), 6);
    }

    @Sentence(of = "Promise 10", says = "`other`: its number")
    static void joinWithTheFirstAndTheLastRope() {
        PennantRopes x = Check.played("r1,r2,r3,r4");
        Check.same("the first one", x.join(1, 0), 3);
        x.undo();
        Check.same("the last one", x.join(1, 3), 6);
    }

    @Sentence(of = "Promise 10", says = "Returns the length then.")
    static void lengthsOfJoins() {
        for (int first = 1; first < 60; first++) {
            for (int second = 1; second <= 60 - first; second++) {
                PennantRopes x = new PennantRopes();
                x.rope(first);
                x.rope(second);
                Check.same(first + " and " + second, x.join(0, 1), first + second);
                Check.same("the length there", x.ropeOf(0, 0), first + second);
            }
        }
    }

    @Sentence(of = "Promise 10", says = "Throws `IndexOutOfBoundsException` if there is no such rope")
    static void joinWithoutRope() {
        PennantRopes x = new PennantRopes();
        Check.fails("no ropes", x, Check.INDEX, () -> x.join(0, 0));
        Check.play(x, "r1,r1");
        Check.failsWith("rope", x, Check.INDEX, rope -> x.join(rope, 0), -1, 2);
        Check.failsWith("other", x, Check.INDEX, other -> x.join(0, other), -1, 2);
        Check.failsWith("both", x, Check.INDEX, both -> x.join(both, both), -1, 2);
    }

    @Sentence(of = "Promise 10", says = "Throws `IllegalStateException` if they cannot be joined")
    static void joinForEachReason() {
        PennantRopes x = Check.played("r3,a0,r3,a0,r3,c1,r58");
        Check.fails("1: both are the same", x, Check.STATE, () -> x.join(0, 0));
        Check.fails("2: 61 places", x, Check.STATE, () -> x.join(0, 3));
        Check.fails("2: 61 places, the other way", x, Check.STATE, () -> x.join(3, 0));
        Check.fails("3: hue 0 does not come back", x, Check.STATE, () -> x.join(0, 1));
        Check.fails("4: two meet", x, Check.STATE, () -> x.join(0, 2));
        Check.fails("4: two meet, the other way", x, Check.STATE, () -> x.join(2, 1));
        Check.same("joins", x.count(5), 0);
        x.stretch(3, 57);
        Check.same("60 places", x.join(0, 3), 60);
    }
}
