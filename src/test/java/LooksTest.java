/** Promises 18 to 23. */
final class LooksTest {
    public static void main(String[] args) {
        place();
        ropeOf();
        holesSideBySide();
        period();
        hueOf();
        gapOf();
        count();
        countOfDroppedRopes();
        refusal();
        refusalWrong();
        Check.end();
    }

    private static PennantRopes three() {
        PennantRopes x = new PennantRopes();
        x.rope(14);
        x.lay(0, 4, 2);
        x.lay(0, 7, 0);
        x.lay(0, 2, 3);
        Check.sameText("three hues", Check.look(x, 0), "h.ec...ceh.c.. ehc");
        return x;
    }

    private static void place() {
        PennantRopes x = three();
        Check.same("place 0", x.place(0, 0), 7);
        Check.same("place 1", x.place(0, 1), -1);
        Check.same("place 8", x.place(0, 8), 4);
        Check.same("place 11", x.place(0, 11), 2);
        Check.same("place 13", x.place(0, 13), -1);
        Check.fails("place 14", x, Check.INDEX, () -> x.place(0, 14));
        Check.fails("place -1", x, Check.INDEX, () -> x.place(0, -1));
        Check.fails("rope 1", x, Check.INDEX, () -> x.place(1, 0));
        Check.fails("rope -1", x, Check.INDEX, () -> x.place(-1, 0));
        x.rope(60);
        x.lay(1, 0, 1);
        Check.same("place 59", x.place(1, 59), 0);
        Check.same("place 58", x.place(1, 58), -1);
        Check.fails("place 60", x, Check.INDEX, () -> x.place(1, 60));
    }

    private static void numbers(String what, PennantRopes x, int rope, int... due) {
        for (int number = 0; number < due.length; number++) {
            Check.same(what + ", ropeOf " + number, x.ropeOf(rope, number), due[number]);
        }
    }

    private static void ropeOf() {
        PennantRopes x = three();
        numbers("three hues", x, 0, 14, 3, 7, 1, 3, 36);
        x.rope(1);
        numbers("one hole", x, 1, 1, 0, 1, 0, 1, 1);
        x.lay(1, 6, 0);
        numbers("no hole", x, 1, 1, 1, 0, -1, 0, 8);
        x.rope(60);
        numbers("60 holes", x, 2, 60, 0, 60, 0, 60, 1);
        Check.fails("rope 3", x, Check.INDEX, () -> x.ropeOf(3, 0));
        Check.fails("rope -1", x, Check.INDEX, () -> x.ropeOf(-1, 0));
        Check.fails("rope 3, what 6", x, Check.INDEX, () -> x.ropeOf(3, 6));
        Check.fails("what 6", x, Check.ARGUMENT, () -> x.ropeOf(0, 6));
        Check.fails("what -1", x, Check.ARGUMENT, () -> x.ropeOf(0, -1));
    }

    private static void holesSideBySide() {
        PennantRopes x = new PennantRopes();
        x.gap(0, 20);
        x.rope(10);
        x.lay(0, 0, 6);
        Check.same("at the beginning", x.ropeOf(0, 4), 6);
        x.turn(0);
        Check.same("at the end", x.ropeOf(0, 4), 6);
        Check.same("the first hole", x.ropeOf(0, 3), 0);
        x.lay(0, 7, 0);
        Check.same("between", x.ropeOf(0, 4), 5);
        Check.same("the first hole", x.ropeOf(0, 3), 1);
        x.lay(0, 6, 6);
        Check.same("two side by side twice", x.ropeOf(0, 4), 2);
    }

    private static void period() {
        PennantRopes x = new PennantRopes();
        int[] gaps = {20, 19, 18, 17, 16, 15, 14, 13};
        for (int hue = 0; hue < 8; hue++) {
            x.gap(hue, gaps[hue]);
        }
        x.rope(8);
        int[] due = {20, 380, 3420, 58140, 232560, 232560, 1627920, 21162960};
        for (int hue = 0; hue < 8; hue++) {
            x.lay(0, hue, hue);
            Check.same("hues " + (hue + 1), x.ropeOf(0, 5), due[hue]);
        }
        x.take(0, 1);
        Check.same("less a hue", x.ropeOf(0, 5), 21162960 / 19);
    }

    private static void hueNumbers(PennantRopes x, int hue, int... due) {
        for (int what = 0; what < 4; what++) {
            Check.same("hueOf " + hue + ", " + what, x.hueOf(0, hue, what), due[what]);
        }
    }

    private static void hueOf() {
        PennantRopes x = three();
        hueNumbers(x, 4, 2, 2, 8, 0);
        hueNumbers(x, 7, 0, 2, 9, 1);
        hueNumbers(x, 2, 3, 3, 11, 2);
        hueNumbers(x, 0, -1, -1, -1, -1);
        x.take(0, 4);
        hueNumbers(x, 4, -1, -1, -1, -1);
        hueNumbers(x, 2, 3, 3, 11, 1);
        Check.fails("rope 1", x, Check.INDEX, () -> x.hueOf(1, 0, 0));
        Check.fails("rope -1", x, Check.INDEX, () -> x.hueOf(-1, 0, 0));
        Check.fails("hue 8", x, Check.INDEX, () -> x.hueOf(0, 8, 0));
        Check.fails("hue -1", x, Check.INDEX, () -> x.hueOf(0, -1, 0));
        Check.fails("hue 8, what 4", x, Check.INDEX, () -> x.hueOf(0, 8, 4));
        Check.fails("rope 1, what -1", x, Check.INDEX, () -> x.hueOf(1, 0, -1));
        Check.fails("what 4", x, Check.ARGUMENT, () -> x.hueOf(0, 0, 4));
        Check.fails("what -1", x, Check.ARGUMENT, () -> x.hueOf(0, 2, -1));
    }

    private static void gapOf() {
        PennantRopes x = new PennantRopes();
        x.gap(6, 20);
        Check.same("hue 6", x.gapOf(6), 20);
        Check.same("hue 7", x.gapOf(7), 9);
        Check.fails("hue 8", x, Check.INDEX, () -> x.gapOf(8));
        Check.fails("hue -1", x, Check.INDEX, () -> x.gapOf(-1));
    }

    private static void counts(String what, PennantRopes x, int... due) {
        for (int number = 0; number < due.length; number++) {
            Check.same(what + ", count " + number, x.count(number), due[number]);
        }
    }

    private static void count() {
        PennantRopes x = three();
        counts("three hues", x, 1, 14, 7, 3, 3, 0, 0, 4);
        x.rope(5);
        x.lay(1, 2, 0);
        counts("a hue on two ropes counts once", x, 2, 19, 10, 3, 4, 0, 0, 6);
        x.cut(0, 8);
        counts("a cut", x, 3, 19, 10, 3, 4, 0, 1, 6);
        x.join(0, 2);
        counts("a join", x, 2, 19, 10, 3, 4, 1, 1, 6);
        x.take(1, 2);
        x.take(0, 2);
        counts("less a hue", x, 2, 19, 15, 2, 4, 1, 1, 6);
        Check.play(x, "h0,<,r3,a1");
        counts("a text", x, 3, 22, 16, 3, 6, 1, 1, 6);
        Check.fails("what 8", x, Check.ARGUMENT, () -> x.count(8));
        Check.fails("what -1", x, Check.ARGUMENT, () -> x.count(-1));
        x.undo();
        counts("undo", x, 2, 19, 15, 2, 4, 1, 1, 5);
    }

    private static void countOfDroppedRopes() {
        PennantRopes x = three();
        x.drop(0);
        counts("dropped", x, 0, 0, 0, 0, 3, 0, 0, 5);
    }

    private static void refusal() {
        PennantRopes x = three();
        Check.same("place 0 is taken", x.refusal(0, 0, 0), 3);
        Check.same("phase 1 of hue 3", x.refusal(0, 3, 1), 3);
        Check.same("phase 0 of hue 3", x.refusal(0, 3, 0), 3);
        Check.same("phase 3 of hue 3", x.refusal(0, 3, 3), 3);
        Check.same("phase 4 of hue 3", x.refusal(0, 3, 4), 3);
        Check.same("phase 5 of hue 5", x.refusal(0, 5, 5), 0);
        Check.same("phase 6 of hue 5", x.refusal(0, 5, 6), 0);
        Check.same("laid already", x.refusal(0, 2, 0), 1);
        x.stretch(0, 3);
        Check.sameText("stretched", Check.look(x, 0), "h.e eh");
        Check.same("not laid any more", x.refusal(0, 2, 1), 0);
        Check.same("phase below the length", x.refusal(0, 2, 2), 3);
        Check.same("phase as the length", x.refusal(0, 2, 3), 2);
        Check.same("laid already, and not below", x.refusal(0, 7, 3), 1);
        Check.same("nothing is saved", x.count(7), 5);
        Check.same("nothing is laid", x.count(4), 3);
    }

    private static void refusalWrong() {
        PennantRopes x = three();
        Check.fails("rope 1", x, Check.INDEX, () -> x.refusal(1, 0, 0));
        Check.fails("rope -1", x, Check.INDEX, () -> x.refusal(-1, 0, 0));
        Check.fails("hue 8", x, Check.INDEX, () -> x.refusal(0, 8, 0));
        Check.fails("hue -1", x, Check.INDEX, () -> x.refusal(0, -1, 0));
        Check.fails("hue 8, phase -1", x, Check.INDEX, () -> x.refusal(0, 8, -1));
        Check.fails("rope 1, phase 2", x, Check.INDEX, () -> x.refusal(1, 0, 2));
        Check.fails("phase as the gap", x, Check.ARGUMENT, () -> x.refusal(0, 0, 2));
        Check.fails("phase -1", x, Check.ARGUMENT, () -> x.refusal(0, 0, -1));
        Check.fails("phase as the gap of a laid one", x, Check.ARGUMENT, () -> x.refusal(0, 2, 4));
    }
}
