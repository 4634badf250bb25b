/** Promises 11 to 14. */
final class TextsTest {
    public static void main(String[] args) {
        append();
        clearBuffer();
        errors();
        incomplete();
        complete();
        play();
        playStops();
        playOfAFifthRope();
        playWithoutRope();
        playOnTheLastRope();
        playIsSavedOnce();
        playLongest();
        Check.end();
    }

    private static void append() {
        PennantRopes x = new PennantRopes();
        Check.fails("code 32", x, Check.ARGUMENT, () -> x.append(32));
        Check.fails("code 127", x, Check.ARGUMENT, () -> x.append(127));
        Check.fails("code -1", x, Check.ARGUMENT, () -> x.append(-1));
        Check.same("code 33", x.append(33), 1);
        Check.same("code 126", x.append(126), 2);
        for (int length = 3; length <= 60; length++) {
            Check.same("length", x.append('r'), length);
        }
        Check.fails("a 61st one", x, Check.STATE, () -> x.append('r'));
        Check.fails("a 61st one with code 32", x, Check.ARGUMENT, () -> x.append(32));
        Check.same("nothing is saved", x.count(7), 0);
        Check.same("the first error", x.firstError(), 0);
    }

    private static void clearBuffer() {
        PennantRopes x = new PennantRopes();
        Check.same("empty", x.clearBuffer(), 0);
        Check.write(x, "r5,");
        Check.same("3 characters", x.clearBuffer(), 3);
        Check.same("empty again", x.clearBuffer(), 0);
        Check.same("nothing is saved", x.count(7), 0);
        Check.same("append", x.append('<'), 1);
        Check.same("play", x.play(), 0);
    }

    private static void error(String text, int due) {
        PennantRopes x = new PennantRopes();
        Check.write(x, text);
        Check.same("firstError of " + text, x.firstError(), due);
        Check.fails("play of " + text, x, Check.ARGUMENT, x::play);
        Check.same("the buffer stays: " + text, x.clearBuffer(), text.length());
    }

    private static void errors() {
        String first = "!\"#$%&'()*+,./0123456789:;=>?@ABCRH[`ijklmnopqstuvwxyz{|}~";
        for (int index = 0; index < first.length(); index++) {
            error(first.substring(index, index + 1), 0);
        }
        String[] wrong = {"r0", "ra", "r,", "r-", "r61", "r69", "r70", "r99", "r101", "r100", "r600", "r5a", "r:", "r/",
            "a00", "a01", "a20", "a29", "a30", "a99", "a190", "a100", "a,", "aa", "h/", "h:", "b1-", "b1b", "c19c",
            "-i", "-`", "-1", "-,", "--", "-aa", "-a0", "<<", "<1", "<r", "<,,", "<,i", "r5,r0", "r9,a2,a20", "r6:", "r6/",
            "r1:", "r5/", "a1:", "h1/", "r9:", "r60:", "a9:"};
        int[] due = {1, 1, 1, 1, 2, 2, 2, 2, 3, 3, 3, 2, 1, 1,
            2, 2, 2, 2, 2, 2, 3, 3, 1, 1, 1, 1, 2, 2, 3,
            1, 1, 1, 1, 1, 2, 2, 1, 1, 1, 2, 2, 4, 8, 2, 2,
            2, 2, 2, 2, 2, 3, 2};
        for (int index = 0; index < wrong.length; index++) {
            error(wrong[index], due[index]);
            error(wrong[index] + "!", due[index]);
            error("r60,h19,-h,<," + wrong[index], 13 + due[index]);
        }
    }

    private static void incomplete() {
        String[] texts = {"", "r", "a", "h", "-", "<,", "r5,", "r60,", "a1,", "-a,", "r5,a", "r5,-", "r5,r", "r5,a1,"};
        for (String text : texts) {
            error(text, text.length());
        }
    }

    private static void complete() {
        for (int length = 1; length <= 60; length++) {
            PennantRopes x = new PennantRopes();
            Check.write(x, "r" + length);
            Check.same("no error", x.firstError(), length < 10 ? 2 : 3);
            Check.same("a rope of " + length, x.play(), 1);
            Check.same("its length", x.ropeOf(0, 0), length);
        }
        for (int phase = 0; phase < 20; phase++) {
            for (int hue = 0; hue < 8; hue++) {
                PennantRopes x = new PennantRopes();
                x.gap(hue, 20);
                Check.write(x, "r20," + (char) ('a' + hue) + phase);
                Check.same("no error", x.firstError(), phase < 10 ? 6 : 7);
                Check.same("parts", x.play(), 2);
                Check.same("hue " + hue + " by " + phase, x.hueOf(0, hue, 0), phase);
                Check.same("taken off", Check.play(x, "-" + (char) ('a' + hue)), 1);
                Check.same("off", x.hueOf(0, hue, 0), -1);
            }
        }
    }

    private static void play() {
        PennantRopes x = new PennantRopes();
        Check.same("parts", Check.play(x, "r9,b2,f0,<,-f,h7"), 6);
        Check.sameText("rope", Check.look(x, 0), "b..b..bh. bh");
        Check.same("the buffer is empty", x.clearBuffer(), 0);
        Check.same("layings", x.count(4), 3);
        Check.same("two more ropes", Check.play(x, "r1,r2"), 2);
        Check.same("length 1", x.ropeOf(1, 0), 1);
        Check.same("length 2", x.ropeOf(2, 0), 2);
        Check.same("joins", x.count(5), 0);
        Check.same("cuts", x.count(6), 0);
    }

    private static void stops(String text, int due, int layings) {
        PennantRopes x = new PennantRopes();
        Check.same("parts of " + text, Check.play(x, text), due);
        Check.same("the buffer is empty behind " + text, x.clearBuffer(), 0);
        Check.same("layings of " + text, x.count(4), layings);
        Check.same("saved states of " + text, x.count(7), 1);
    }

    private static void playStops() {
        stops("r1,r2,r3,r4,r5,<", 4, 0);
        stops("r20,a2,<", 1, 0);
        stops("r20,a1,<", 3, 1);
        stops("r20,h9,<", 1, 0);
        stops("r20,h8,<", 3, 1);
        stops("r20,c19,<", 1, 0);
        stops("r1,a1,<", 1, 0);
        stops("r2,a1,<", 3, 1);
        stops("r5,a0,a1,<", 2, 1);
        stops("r5,a0,c0,<", 2, 1);
        stops("r5,a0,b0,-a", 2, 1);
        stops("r5,a0,-b,-a", 2, 1);
        stops("r5,a0,-a,-a", 3, 1);
        stops("r5,a0,r5,-a", 3, 1);
        stops("r5,a0,-a,a1,b2", 5, 3);
    }

    private static void playOfAFifthRope() {
        PennantRopes x = new PennantRopes();
        Check.play(x, "r1,r2,r3,r4,r5");
        Check.same("ropes", x.count(0), 4);
        Check.same("length of the last one", x.ropeOf(3, 0), 4);
        Check.same("nothing of it is done", Check.play(x, "r5,<"), 0);
        Check.same("ropes", x.count(0), 4);
    }

    private static void playWithoutRope() {
        stops("a0,r5", 0, 0);
        stops("-a,r5", 0, 0);
        stops("<,r5", 0, 0);
        stops("h19", 0, 0);
    }

    private static void playOnTheLastRope() {
        PennantRopes x = new PennantRopes();
        x.rope(3);
        x.rope(3);
        Check.same("lay", Check.play(x, "b0"), 1);
        Check.sameText("rope 0", Check.look(x, 0), "... ");
        Check.sameText("rope 1", Check.look(x, 1), "b.. b");
        x.lay(0, 2, 0);
        Check.same("turn", Check.play(x, "<"), 1);
        Check.sameText("rope 0", Check.look(x, 0), "c.. c");
        Check.sameText("rope 1", Check.look(x, 1), "..b b");
        Check.same("take what the other one has", Check.play(x, "-c"), 0);
        Check.same("take", Check.play(x, "-b"), 1);
        Check.sameText("rope 1", Check.look(x, 1), "... ");
    }

    private static void playIsSavedOnce() {
        PennantRopes x = new PennantRopes();
        long before = x.digest();
        Check.play(x, "r5,a0,r6,<");
        Check.same("saved states", x.count(7), 1);
        Check.same("undo", x.undo(), 0);
        Check.same("as before", x.digest(), before);
        Check.same("nothing done", Check.play(x, "<"), 0);
        Check.same("but saved", x.count(7), 1);
        Check.write(x, "<,");
        Check.fails("incomplete", x, Check.ARGUMENT, x::play);
        Check.same("is not saved", x.count(7), 1);
    }

    private static void playLongest() {
        PennantRopes x = new PennantRopes();
        Check.write(x, "r60,<" + ",<".repeat(27));
        Check.same("59 characters", x.firstError(), 59);
        x.append(',');
        Check.same("60 characters", x.firstError(), 60);
        Check.fails("a comma at the end", x, Check.ARGUMENT, x::play);
        x.clearBuffer();
        Check.write(x, "r7,r60,<" + ",<".repeat(26));
        Check.same("60 characters", x.firstError(), 60);
        Check.same("29 parts", x.play(), 29);
        Check.same("buffer", x.clearBuffer(), 0);
    }
}
