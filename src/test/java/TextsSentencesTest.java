/** The sentences of the promises 11 to 14, each with a test of its own. */
final class TextsSentencesTest {
    public static void main(String[] args) {
        Check.sentences(TextsSentencesTest.class);
    }

    // ---- Promise 11: append

    @Sentence(of = "Promise 11", says = "Appends a character to the buffer.")
    static void appendedBehindTheOthers() {
        PennantRopes x = new PennantRopes();
        x.append('r');
        x.append('1');
        x.append('2');
        Check.same("no error", x.firstError(), 3);
        Check.same("nothing is saved", x.count(7), 0);
        x.play();
        Check.same("12, not 21", x.ropeOf(0, 0), 12);
    }

    @Sentence(of = "Promise 11", says = "`code`: the character code, 33 to 126")
    static void codes33To126() {
        PennantRopes x = new PennantRopes();
        for (int code = 33; code <= 126; code++) {
            Check.same("code " + code, x.append(code), 1);
            boolean begins = code == 'r' || code == '-' || code == '<' || code >= 'a' && code <= 'h';
            Check.same("firstError of code " + code, x.firstError(), begins ? 1 : 0);
            x.clearBuffer();
        }
    }

    @Sentence(of = "Promise 11", says = "Returns the new length of the buffer.")
    static void lengthsUpTo60() {
        PennantRopes x = new PennantRopes();
        for (int length = 1; length <= 60; length++) {
            Check.same("length", x.append('!'), length);
        }
        x.clearBuffer();
        Check.same("behind clearBuffer", x.append('!'), 1);
    }

    @Sentence(of = "Promise 11", says = "Throws `IllegalArgumentException` if code is not 33 to 126")
    static void codesOutOfRange() {
        PennantRopes x = new PennantRopes();
        Check.failsWith("code", x, Check.ARGUMENT, x::append, -1, 0, 31, 32, 127, 128, 255, 256 + 'r', 65536 + 'r');
        Check.write(x, "<".repeat(60));
        Check.failsWith("full, code", x, Check.ARGUMENT, x::append, -1, 0, 32, 127);
    }

    @Sentence(of = "Promise 11", says = "Throws `IllegalStateException` if the buffer has 60 characters")
    static void a61stCharacter() {
        PennantRopes x = new PennantRopes();
        Check.write(x, "<".repeat(59));
        Check.same("the 60th one", x.append('<'), 60);
        for (int each = 33; each <= 126; each++) {
            int code = each;
            Check.fails("a 61st one, code " + code, x, Check.STATE, () -> x.append(code));
        }
        Check.same("60", x.clearBuffer(), 60);
        Check.same("behind clearBuffer", x.append('<'), 1);
    }

    // ---- Promise 12: clearBuffer

    @Sentence(of = "Promise 12", says = "Clears the buffer.")
    static void clearedOfAnError() {
        PennantRopes x = new PennantRopes();
        Check.write(x, "!!");
        x.clearBuffer();
        Check.same("firstError", x.firstError(), 0);
        Check.write(x, "r1");
        Check.same("no error any more", x.firstError(), 2);
        Check.same("play", x.play(), 1);
        Check.same("saved states", x.count(7), 1);
    }

    @Sentence(of = "Promise 12", says = "Returns the length that it had.")
    static void lengthsThatAreCleared() {
        PennantRopes x = new PennantRopes();
        for (int length = 0; length <= 60; length++) {
            Check.write(x, "a".repeat(length));
            Check.same("length", x.clearBuffer(), length);
            Check.same("empty then", x.clearBuffer(), 0);
        }
    }

    // ---- Promise 13: firstError

    private static void error(String text, int due) {
        PennantRopes x = new PennantRopes();
        Check.write(x, text);
        Check.same("firstError of " + text, x.firstError(), due);
        Check.changesNothing("firstError of " + text, x, x::firstError);
    }

    @Sentence(of = "Promise 13", says = "Finds the first syntax error of the buffer.")
    static void theFirstOfSeveralErrors() {
        error("!!", 0);
        error("r!!", 1);
        error("r0,r0", 1);
        error("r1!!!", 2);
        error("r61,a20", 2);
        error("a1,a20,r0", 5);
        error("<<<", 1);
    }

    @Sentence(of = "Promise 13", says = "Returns the index of the first character that is a syntax error")
    static void errorsOnEachIndex() {
        String text = "r60,h19,-h,<,a0,r1,c10,r59";
        for (int index = 0; index < text.length(); index++) {
            error(text.substring(0, index) + "!", index);
            error(text.substring(0, index) + "!" + text.substring(index), index);
        }
        for (int index = 0; index < 60; index++) {
            String ahead = "<,".repeat(30).substring(0, index);
            error(ahead + "!".repeat(60 - index), index);
        }
    }

    @Sentence(of = "Promise 13", says = "the length of the buffer if there is none.")
    static void noErrorInAnyBeginning() {
        String text = "r60,h19,-h,<,a0,r1,c10,r59";
        for (int length = 0; length <= text.length(); length++) {
            error(text.substring(0, length), length);
        }
        for (int length = 0; length <= 60; length++) {
            error("<,".repeat(30).substring(0, length), length);
        }
    }

    // ---- Promise 14: play

    private static void plays(String text, int due, String looks) {
        PennantRopes x = new PennantRopes();
        Check.same("parts of " + text, Check.play(x, text), due);
        Check.sameText("ropes of " + text, Check.looks(x), looks);
        Check.same("buffer behind " + text, x.clearBuffer(), 0);
        Check.same("saved states behind " + text, x.count(7), 1);
    }

    @Sentence(of = "Promise 14", says = "Does what the buffer tells, part by part")
    static void partByPart() {
        plays("r3", 1, "... ");
        plays("r3,b0", 2, "b.. b");
        plays("r3,b0,<", 3, "..b b");
        plays("r3,b0,<,b0", 3, "..b b");
        plays("r3,b0,<,-b", 4, "... ");
        plays("r3,b0,<,-b,b1", 5, ".b. b");
        plays("r3,b0,<,-b,b1,r1", 6, ".b. b/. ");
        plays("r3,b0,<,-b,b1,r1,h0", 7, ".b. b/h h");
    }

    @Sentence(of = "Promise 14", says = "up to the first part that is not possible")
    static void nothingBehindWhatIsNotPossible() {
        plays("r3,a2,<,r3,b0", 1, "... ");
        plays("r3,b0,-a,<,r4", 2, "b.. b");
        plays("b0,r3,b0", 0, "");
    }

    @Sentence(of = "Promise 14", says = "(a fifth rope")
    static void aFifthRopeIsNotPossible() {
        plays("r1,r2,r3,r4", 4, ". /.. /... /.... ");
        plays("r1,r2,r3,r4,r5", 4, ". /.. /... /.... ");
        plays("r1,r2,r3,r4,r5,h0", 4, ". /.. /... /.... ");
        PennantRopes x = Check.played("r1,r2,r3");
        x.cut(2, 1);
        Check.same("behind a cut", Check.play(x, "r1"), 0);
        x.drop(0);
        Check.same("behind a drop", Check.play(x, "r1,r1"), 1);
    }

    @Sentence(of = "Promise 14", says = "without a rope")
    static void notPossibleWithoutARope() {
        for (int hue = 0; hue < 8; hue++) {
            plays((char) ('a' + hue) + "0,r1", 0, "");
            plays("-" + (char) ('a' + hue) + ",r1", 0, "");
        }
        plays("<,r1", 0, "");
        PennantRopes x = Check.played("r1");
        x.drop(0);
        Check.same("behind a drop", Check.play(x, "<"), 0);
    }

    @Sentence(of = "Promise 14", says = "a hue that cannot be laid")
    static void notPossibleToLay() {
        plays("r9,h0,h1", 2, "h........ h");
        plays("r8,h8", 1, "........ ");
        plays("r8,h7", 2, ".......h h");
        plays("r9,h8,e2", 2, "........h h");
        plays("r9,h8,e1", 3, ".e.....eh he");
        PennantRopes x = Check.played("r9,h8");
        Check.play(x, "h0");
        Check.same("layings of what was possible alone", x.count(4), 1);
    }

    @Sentence(of = "Promise 14", says = "or whose gap is not greater than the phase")
    static void phasesThatEachGapAllows() {
        for (int gap = 2; gap <= 20; gap++) {
            for (int phase = 0; phase < 20; phase++) {
                PennantRopes x = new PennantRopes();
                x.gap(7, gap);
                String what = "gap " + gap + ", phase " + phase;
                Check.same("parts by " + what, Check.play(x, "r60,h" + phase), gap > phase ? 2 : 1);
                Check.same("phase by " + what, x.hueOf(0, 7, 0), gap > phase ? phase : -1);
                Check.same("layings by " + what, x.count(4), gap > phase ? 1 : 0);
            }
        }
    }

    @Sentence(of = "Promise 14", says = "one that is not laid)")
    static void notPossibleToTakeOff() {
        plays("r2,-a", 1, ".. ");
        plays("r2,a0,-a,-a", 3, ".. ");
        plays("r2,a0,-b", 2, "a. a");
        plays("r2,a0,r2,-a", 3, "a. a/.. ");
    }

    @Sentence(of = "Promise 14", says = "and clears the buffer.")
    static void clearedAlsoIfNothingIsDone() {
        PennantRopes x = new PennantRopes();
        Check.write(x, "a0,r1");
        x.play();
        Check.same("nothing was done", x.clearBuffer(), 0);
        Check.write(x, "r1,a1,r1");
        x.play();
        Check.same("a part was done", x.clearBuffer(), 0);
        Check.write(x, "<");
        x.play();
        Check.same("all was done", x.clearBuffer(), 0);
        Check.fails("play of it", x, Check.ARGUMENT, x::play);
    }

    @Sentence(of = "Promise 14", says = "Undoable, as one call, also if nothing is done.")
    static void playIsUndoneAsOneCall() {
        PennantRopes x = Check.played("r9,h0,r2");
        Check.undone("one part", x, () -> Check.play(x, "<"));
        Check.undone("six parts", x, () -> Check.play(x, "r4,a0,<,g0,-a,r60"));
        Check.undone("all but the last part", x, () -> Check.play(x, "b0,<,r3,r3,r3"));
        Check.undone("nothing", x, () -> Check.play(x, "-h"));
        Check.same("layings", x.count(4), 1);
        PennantRopes y = new PennantRopes();
        Check.same("nothing", Check.play(y, "<"), 0);
        Check.same("one state", y.count(7), 1);
        Check.same("undo", y.undo(), 0);
        Check.same("the buffer does not come back", y.clearBuffer(), 0);
    }

    @Sentence(of = "Promise 14", says = "Returns how many parts are done.")
    static void noneToThirtyPartsAreDone() {
        for (int parts = 1; parts <= 30; parts++) {
            PennantRopes x = Check.played("r2,h0");
            Check.same(parts + " parts", Check.play(x, "<" + ",<".repeat(parts - 1)), parts);
            Check.sameText("turned as often", Check.look(x, 0), parts % 2 == 0 ? "h. h" : ".h h");
        }
        PennantRopes none = new PennantRopes();
        Check.same("none of 30", Check.play(none, "<" + ",<".repeat(29)), 0);
    }

    private static void incomplete(String text) {
        PennantRopes x = Check.played("r3,b0");
        Check.write(x, text);
        Check.fails("play of " + text, x, Check.ARGUMENT, x::play);
        Check.same("no state is saved by " + text, x.count(7), 1);
        Check.same("the buffer stays: " + text, x.clearBuffer(), text.length());
        Check.sameText("nothing is done by " + text, Check.looks(x), "b.. b");
    }

    @Sentence(of = "Promise 14", says = "Throws `IllegalArgumentException` if the buffer is not complete ropes as a text (the buffer stays)")
    static void playOfAnIncompleteBuffer() {
        String[] texts = {"", "r", "a", "h", "-", ",", "<,", "<,r", "<,a", "<,-", "r5,", "<<", "<!", "!", "r0", "r61", "a20", "a00",
            "-", "-i", "i0", "<,<,<,r0", "<,".repeat(30), "<".repeat(60), "r1," + "<,".repeat(28) + "r"};
        for (String text : texts) {
            incomplete(text);
        }
        PennantRopes x = Check.played("r3,b0");
        Check.write(x, "<,");
        Check.fails("a comma at the end", x, Check.ARGUMENT, x::play);
        Check.write(x, "<");
        Check.same("the buffer that stayed is completed", x.play(), 2);
    }
}
