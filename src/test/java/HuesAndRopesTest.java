/** Promises 2 to 6. */
final class HuesAndRopesTest {
    public static void main(String[] args) {
        gap();
        gapWrong();
        rope();
        ropeIsFreeAgain();
        drop();
        lay();
        layWrong();
        take();
        takeWrong();
        Check.end();
    }

    private static void gap() {
        PennantRopes x = new PennantRopes();
        Check.same("gap to 20", x.gap(7, 20), 9);
        Check.same("gap to 2", x.gap(7, 2), 20);
        Check.same("gap to the same", x.gap(7, 2), 2);
        Check.same("gapOf", x.gapOf(7), 2);
        Check.same("gap of hue 0", x.gap(0, 13), 2);
        Check.same("gapOf 0", x.gapOf(0), 13);
        Check.same("gapOf 1", x.gapOf(1), 3);
        Check.same("saved states", x.count(7), 4);
    }

    private static void gapWrong() {
        PennantRopes x = new PennantRopes();
        x.rope(10);
        x.rope(10);
        x.lay(1, 0, 0);
        Check.fails("hue -1", x, Check.INDEX, () -> x.gap(-1, 5));
        Check.fails("hue 8", x, Check.INDEX, () -> x.gap(8, 5));
        Check.fails("hue 8 and gap 1", x, Check.INDEX, () -> x.gap(8, 1));
        Check.fails("gap 1", x, Check.ARGUMENT, () -> x.gap(1, 1));
        Check.fails("gap 21", x, Check.ARGUMENT, () -> x.gap(1, 21));
        Check.fails("gap 1 of a laid hue", x, Check.ARGUMENT, () -> x.gap(0, 1));
        Check.fails("a laid hue", x, Check.STATE, () -> x.gap(0, 5));
        Check.fails("a laid hue, the same gap", x, Check.STATE, () -> x.gap(0, 2));
        x.take(1, 0);
        Check.same("not laid any more", x.gap(0, 5), 2);
        x.lay(0, 0, 4);
        x.drop(0);
        Check.same("its rope is dropped", x.gap(0, 6), 5);
    }

    private static void rope() {
        PennantRopes x = new PennantRopes();
        Check.fails("length 0", x, Check.ARGUMENT, () -> x.rope(0));
        Check.fails("length -1", x, Check.ARGUMENT, () -> x.rope(-1));
        Check.fails("length 61", x, Check.ARGUMENT, () -> x.rope(61));
        Check.same("length 1", x.rope(1), 0);
        Check.same("length 60", x.rope(60), 1);
        Check.same("length 2", x.rope(2), 2);
        Check.same("length 3", x.rope(3), 3);
        Check.fails("a fifth one", x, Check.STATE, () -> x.rope(4));
        Check.fails("a fifth one of length 61", x, Check.ARGUMENT, () -> x.rope(61));
        Check.sameText("rope 0", Check.look(x, 0), ". ");
        Check.same("holes of rope 1", x.ropeOf(1, 2), 60);
        Check.same("length of rope 3", x.ropeOf(3, 0), 3);
        Check.same("saved states", x.count(7), 4);
    }

    private static void ropeIsFreeAgain() {
        PennantRopes x = new PennantRopes();
        x.rope(4);
        x.lay(0, 0, 1);
        x.drop(0);
        x.rope(5);
        Check.sameText("a new rope behind a dropped one", Check.look(x, 0), "..... ");
        x.lay(0, 0, 0);
        x.undo();
        x.undo();
        x.rope(3);
        Check.sameText("a new rope behind undo", Check.look(x, 0), "... ");
    }

    private static void drop() {
        PennantRopes x = new PennantRopes();
        Check.fails("no rope", x, Check.INDEX, () -> x.drop(0));
        x.rope(5);
        x.rope(6);
        x.rope(7);
        x.rope(8);
        x.lay(2, 1, 2);
        Check.same("drop 1", x.drop(1), 3);
        Check.sameText("the next one", Check.look(x, 1), "..b..b. b");
        Check.same("the last one", x.ropeOf(2, 0), 8);
        Check.fails("rope 3", x, Check.INDEX, () -> x.drop(3));
        Check.fails("rope -1", x, Check.INDEX, () -> x.drop(-1));
        Check.same("drop the last one", x.drop(2), 2);
        Check.same("drop the first one", x.drop(0), 1);
        Check.sameText("the one that is left", Check.look(x, 0), "..b..b. b");
        Check.same("undo", x.undo(), 5);
        Check.same("ropes", x.count(0), 2);
    }

    private static void lay() {
        PennantRopes x = new PennantRopes();
        x.rope(10);
        Check.same("lay hue 2", x.lay(0, 2, 3), 2);
        Check.same("lay hue 0", x.lay(0, 0, 0), 5);
        Check.sameText("both", Check.look(x, 0), "a.aca.aca. ca");
        Check.same("the last phase", x.lay(0, 7, 5), 1);
        Check.sameText("all three", Check.look(x, 0), "a.acahaca. cah");
        x.rope(10);
        Check.same("on the other rope too", x.lay(1, 2, 0), 3);
        Check.same("layings", x.count(4), 4);
        x.rope(1);
        Check.same("one place", x.lay(2, 7, 0), 1);
    }

    private static void layWrong() {
        PennantRopes x = new PennantRopes();
        x.rope(6);
        x.lay(0, 0, 0);
        Check.fails("rope 1", x, Check.INDEX, () -> x.lay(1, 1, 1));
        Check.fails("rope -1", x, Check.INDEX, () -> x.lay(-1, 1, 1));
        Check.fails("hue 8", x, Check.INDEX, () -> x.lay(0, 8, 1));
        Check.fails("hue -1", x, Check.INDEX, () -> x.lay(0, -1, 1));
        Check.fails("hue 8 and phase -1", x, Check.INDEX, () -> x.lay(0, 8, -1));
        Check.fails("rope 1 and phase 20", x, Check.INDEX, () -> x.lay(1, 0, 20));
        Check.fails("phase -1", x, Check.ARGUMENT, () -> x.lay(0, 1, -1));
        Check.fails("phase as the gap", x, Check.ARGUMENT, () -> x.lay(0, 1, 3));
        Check.fails("laid already, phase as the gap", x, Check.ARGUMENT, () -> x.lay(0, 0, 2));
        Check.fails("laid already", x, Check.STATE, () -> x.lay(0, 0, 1));
        Check.fails("phase as the length", x, Check.STATE, () -> x.lay(0, 7, 6));
        Check.fails("the first place is taken", x, Check.STATE, () -> x.lay(0, 7, 4));
        Check.fails("the second place is taken", x, Check.STATE, () -> x.lay(0, 1, 1));
        Check.same("layings", x.count(4), 1);
    }

    private static void take() {
        PennantRopes x = new PennantRopes();
        x.rope(12);
        x.lay(0, 2, 0);
        x.lay(0, 6, 1);
        x.lay(0, 4, 5);
        x.rope(3);
        x.lay(1, 6, 2);
        Check.sameText("before", Check.look(x, 0), "cg..ce..cg.e cge");
        Check.same("take hue 6", x.take(0, 6), 2);
        Check.sameText("behind", Check.look(x, 0), "c...ce..c..e ce");
        Check.sameText("the other rope", Check.look(x, 1), "..g g");
        Check.same("take hue 2", x.take(0, 2), 3);
        Check.sameText("then", Check.look(x, 0), ".....e.....e e");
        Check.same("layings stay", x.count(4), 4);
        x.lay(0, 2, 0);
        Check.sameText("laid again", Check.look(x, 0), "c...ce..c..e ec");
    }

    private static void takeWrong() {
        PennantRopes x = new PennantRopes();
        x.rope(6);
        x.rope(6);
        x.lay(0, 0, 0);
        Check.fails("rope 2", x, Check.INDEX, () -> x.take(2, 0));
        Check.fails("rope -1", x, Check.INDEX, () -> x.take(-1, 0));
        Check.fails("hue 8", x, Check.INDEX, () -> x.take(0, 8));
        Check.fails("hue -1", x, Check.INDEX, () -> x.take(0, -1));
        Check.fails("not laid", x, Check.STATE, () -> x.take(0, 1));
        Check.fails("laid on the other one", x, Check.STATE, () -> x.take(1, 0));
    }
}
