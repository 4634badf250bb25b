/** Promises 7 to 10. */
final class ChangesTest {
    public static void main(String[] args) {
        stretch();
        stretchWrong();
        cut();
        cutWrong();
        turn();
        turnNothing();
        join();
        joinHuesOfBoth();
        joinOtherAhead();
        joinWrong();
        Check.end();
    }

    private static void stretch() {
        PennantRopes x = new PennantRopes();
        x.rope(6);
        x.lay(0, 4, 4);
        x.lay(0, 0, 1);
        x.lay(0, 6, 0);
        Check.sameText("before", Check.look(x, 0), "ga.aea eag");
        Check.same("to 8", x.stretch(0, 8), 0);
        Check.sameText("8", Check.look(x, 0), "ga.aea.a eag");
        Check.same("to 9", x.stretch(0, 9), 0);
        Check.sameText("9", Check.look(x, 0), "ga.aea.ag eag");
        Check.same("to 4", x.stretch(0, 4), 1);
        Check.sameText("4", Check.look(x, 0), "ga.a ag");
        Check.same("saved states", x.count(7), 6);
        x.undo();
        Check.same("to 9 again", x.stretch(0, 9), 0);
        Check.same("it is saved too", x.undo(), 5);
        Check.same("to 4", x.stretch(0, 4), 1);
        Check.same("to 60", x.stretch(0, 60), 0);
        Check.same("places of hue 0", x.hueOf(0, 0, 1), 30);
        Check.same("places of hue 6", x.hueOf(0, 6, 1), 8);
        Check.same("to 1", x.stretch(0, 1), 1);
        Check.sameText("1", Check.look(x, 0), "g g");
        Check.same("layings", x.count(4), 3);
        x.rope(5);
        x.lay(1, 3, 4);
        x.lay(1, 7, 3);
        Check.same("all hues gone", x.stretch(1, 3), 2);
        Check.sameText("none left", Check.look(x, 1), "... ");
    }

    private static void stretchWrong() {
        PennantRopes x = new PennantRopes();
        x.rope(9);
        x.lay(0, 1, 0);
        x.lay(0, 2, 1);
        Check.fails("10 places", x, Check.STATE, () -> x.stretch(0, 10));
        Check.fails("60 places", x, Check.STATE, () -> x.stretch(0, 60));
        Check.fails("61 places", x, Check.ARGUMENT, () -> x.stretch(0, 61));
        Check.fails("0 places", x, Check.ARGUMENT, () -> x.stretch(0, 0));
        Check.fails("-1 places", x, Check.ARGUMENT, () -> x.stretch(0, -1));
        Check.fails("rope 1", x, Check.INDEX, () -> x.stretch(1, 5));
        Check.fails("rope -1", x, Check.INDEX, () -> x.stretch(-1, 5));
        Check.fails("rope 1 and 0 places", x, Check.INDEX, () -> x.stretch(1, 0));
        Check.same("8 places", x.stretch(0, 8), 0);
        Check.same("9 places", x.stretch(0, 9), 0);
    }

    private static PennantRopes four() {
        PennantRopes x = new PennantRopes();
        x.rope(11);
        x.lay(0, 6, 6);
        x.lay(0, 2, 1);
        x.lay(0, 4, 4);
        x.lay(0, 7, 2);
        Check.sameText("four hues", Check.look(x, 0), ".ch.ecg..ce gceh");
        return x;
    }

    private static void cut() {
        PennantRopes x = four();
        x.rope(2);
        Check.same("cut ahead of 3", x.cut(0, 3), 2);
        Check.sameText("front", Check.look(x, 0), ".ch ch");
        Check.sameText("the one between", Check.look(x, 1), ".. ");
        Check.sameText("back", Check.look(x, 2), ".ecg..ce gce");
        Check.same("cut ahead of 1", x.cut(0, 1), 3);
        Check.sameText("front of 1", Check.look(x, 0), ". ");
        Check.sameText("back of it", Check.look(x, 3), "ch ch");
        x.drop(1);
        Check.same("cut ahead of the last place", x.cut(1, 7), 3);
        Check.sameText("all but one", Check.look(x, 1), ".ecg..c gce");
        Check.sameText("the last place", Check.look(x, 3), "e e");
        Check.same("cuts", x.count(6), 3);
        Check.same("layings", x.count(4), 4);
        x.stretch(3, 13);
        Check.sameText("its gap goes on", Check.look(x, 3), "e.....e.....e e");
    }

    private static void cutWrong() {
        PennantRopes x = four();
        x.rope(1);
        Check.fails("place 0", x, Check.ARGUMENT, () -> x.cut(0, 0));
        Check.fails("place -1", x, Check.ARGUMENT, () -> x.cut(0, -1));
        Check.fails("place 11", x, Check.ARGUMENT, () -> x.cut(0, 11));
        Check.fails("one place alone", x, Check.ARGUMENT, () -> x.cut(1, 1));
        Check.fails("one place alone, ahead of it", x, Check.ARGUMENT, () -> x.cut(1, 0));
        Check.fails("rope 2", x, Check.INDEX, () -> x.cut(2, 1));
        Check.fails("rope -1", x, Check.INDEX, () -> x.cut(-1, 1));
        Check.fails("rope 2, place 0", x, Check.INDEX, () -> x.cut(2, 0));
        x.rope(1);
        x.rope(1);
        Check.fails("4 ropes", x, Check.STATE, () -> x.cut(0, 5));
        Check.fails("4 ropes, place 0", x, Check.ARGUMENT, () -> x.cut(0, 0));
        Check.fails("4 ropes, place 11", x, Check.ARGUMENT, () -> x.cut(0, 11));
    }

    private static void turn() {
        PennantRopes x = four();
        Check.same("turn", x.turn(0), 6);
        Check.sameText("turned", Check.look(x, 0), "ec..gce.hc. gceh");
        Check.same("phase of hue 6", x.hueOf(0, 6, 0), 4);
        Check.same("greatest", x.greatest(0), 12);
        Check.same("turn back", x.turn(0), 6);
        Check.sameText("as before", Check.look(x, 0), ".ch.ecg..ce gceh");
        Check.fails("rope 1", x, Check.INDEX, () -> x.turn(1));
        Check.fails("rope -1", x, Check.INDEX, () -> x.turn(-1));
        Check.same("layings", x.count(4), 4);
    }

    private static void turnNothing() {
        PennantRopes x = new PennantRopes();
        x.rope(5);
        Check.same("turn a free rope", x.turn(0), 0);
        x.lay(0, 2, 0);
        Check.same("turn the same both ways", x.turn(0), 0);
        Check.same("saved states", x.count(7), 4);
        x.lay(0, 0, 1);
        Check.same("turn the same both ways again", x.turn(0), 0);
        x.stretch(0, 4);
        Check.same("turn another one", x.turn(0), 4);
        Check.sameText("turned", Check.look(x, 0), "a.ac ca");
    }

    private static void join() {
        PennantRopes x = new PennantRopes();
        x.gap(4, 8);
        x.rope(5);
        x.rope(4);
        x.lay(0, 6, 2);
        x.lay(0, 0, 1);
        x.lay(1, 2, 3);
        x.lay(1, 4, 1);
        Check.sameText("front", Check.look(x, 0), ".aga. ga");
        Check.sameText("back", Check.look(x, 1), ".e.c ce");
        Check.same("join", x.join(0, 1), 9);
        Check.sameText("joined", Check.look(x, 0), "cagacaeac gace");
        Check.same("ropes", x.count(0), 1);
        Check.same("joins", x.count(5), 1);
        Check.same("layings", x.count(4), 4);
        Check.same("undo", x.undo(), 5);
        Check.sameText("back is there again", Check.look(x, 1), ".e.c ce");
        Check.same("joins", x.count(5), 0);
    }

    private static void joinHuesOfBoth() {
        PennantRopes x = new PennantRopes();
        x.gap(1, 4);
        x.rope(4);
        x.rope(3);
        x.lay(0, 0, 0);
        x.lay(1, 1, 1);
        x.lay(1, 0, 0);
        Check.sameText("back", Check.look(x, 1), "aba ba");
        Check.same("join", x.join(0, 1), 7);
        Check.sameText("joined", Check.look(x, 0), "aba.aba ab");
    }

    private static void joinOtherAhead() {
        PennantRopes x = new PennantRopes();
        x.rope(3);
        x.rope(4);
        x.rope(5);
        x.rope(6);
        x.lay(0, 7, 1);
        x.lay(2, 6, 0);
        Check.same("join 2 with 0", x.join(2, 0), 8);
        Check.sameText("the first one is rope 1 of before", Check.look(x, 0), ".... ");
        Check.sameText("joined", Check.look(x, 1), "g.....h. gh");
        Check.sameText("the last one", Check.look(x, 2), "...... ");
        Check.same("ropes", x.count(0), 3);
    }

    private static void joinWrong() {
        PennantRopes x = new PennantRopes();
        x.rope(3);
        x.lay(0, 0, 0);
        x.rope(3);
        Check.fails("with itself", x, Check.STATE, () -> x.join(0, 0));
        Check.fails("rope 2", x, Check.INDEX, () -> x.join(2, 0));
        Check.fails("other rope 2", x, Check.INDEX, () -> x.join(0, 2));
        Check.fails("rope -1", x, Check.INDEX, () -> x.join(-1, 0));
        Check.fails("other rope -1", x, Check.INDEX, () -> x.join(0, -1));
        Check.fails("no such rope with itself", x, Check.INDEX, () -> x.join(2, 2));
        x.lay(1, 0, 0);
        Check.fails("phases do not agree", x, Check.STATE, () -> x.join(0, 1));
        x.take(1, 0);
        x.lay(1, 2, 1);
        Check.fails("two hues on one place", x, Check.STATE, () -> x.join(0, 1));
        x.stretch(1, 58);
        Check.fails("61 places", x, Check.STATE, () -> x.join(0, 1));
        x.stretch(1, 57);
        x.take(1, 2);
        Check.same("60 places", x.join(0, 1), 60);
    }
}
