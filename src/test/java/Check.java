import java.lang.reflect.InvocationTargetException;
import java.lang.reflect.Method;
import java.util.Arrays;
import java.util.Comparator;

/** Compares answers with the ones that are due, and tells what differs. */
final class Check {
    interface Call {
        long answer();
    }

    interface CallWith {
        long answer(int argument);
    }

    static final Class<IndexOutOfBoundsException> INDEX = IndexOutOfBoundsException.class;
    static final Class<IllegalArgumentException> ARGUMENT = IllegalArgumentException.class;
    static final Class<IllegalStateException> STATE = IllegalStateException.class;

    private static int checks = 0;
    private static int wrong = 0;
    /** The sentence that the running test belongs to. */
    private static String sentence = "";

    private Check() {
    }

    static void same(String what, long got, long due) {
        checked(what, got == due, got, due);
    }

    static void sameDouble(String what, double got, double due) {
        checked(what, Double.doubleToLongBits(got) == Double.doubleToLongBits(due), got, due);
    }

    static void sameText(String what, String got, String due) {
        checked(what, got.equals(due), got, due);
    }

    /** The exception must be of the very class, not of one below it, and must change nothing. */
    static void fails(String what, PennantRopes x, Class<? extends RuntimeException> due, Call call) {
        long before = x.digest();
        String got;
        try {
            got = "answered " + call.answer();
        } catch (RuntimeException e) {
            got = e.getClass().getName();
        }
        checked(what, got.equals(due.getName()), got, due.getName());
        checked("digest behind " + what, x.digest() == before, x.digest(), before);
    }

    /** The call fails with each of the arguments, and with the least and the greatest int. */
    static void failsWith(String what, PennantRopes x, Class<? extends RuntimeException> due, CallWith call, int... arguments) {
        for (int argument : arguments) {
            fails(what + " " + argument, x, due, () -> call.answer(argument));
        }
        fails(what + ", the least int", x, due, () -> call.answer(Integer.MIN_VALUE));
        fails(what + ", the greatest int", x, due, () -> call.answer(Integer.MAX_VALUE));
    }

    /** The call saves one state, and undo brings back all as it was ahead of the call. */
    static void undone(String what, PennantRopes x, Call call) {
        while (x.count(7) > 5) {
            x.undo();
        }
        int saved = x.count(7);
        long before = x.digest();
        call.answer();
        same("saved states behind " + what, x.count(7), saved + 1);
        same("undo of " + what, x.undo(), saved);
        same("digest behind undo of " + what, x.digest(), before);
    }

    /** The call changes nothing that the digest tells. */
    static void changesNothing(String what, PennantRopes x, Call call) {
        long before = x.digest();
        call.answer();
        same("digest behind " + what, x.digest(), before);
    }

    /** The places of a rope, "a" to "h" and "." for a hole, and behind a blank its hues in their order. */
    static String look(PennantRopes x, int rope) {
        StringBuilder places = new StringBuilder();
        for (int place = 0; place < x.ropeOf(rope, 0); place++) {
            int hue = x.place(rope, place);
            places.append(hue == PennantRopes.NONE ? '.' : (char) ('a' + hue));
        }
        places.append(' ');
        for (int order = 0; order < 8; order++) {
            for (int hue = 0; hue < 8; hue++) {
                if (x.hueOf(rope, hue, 3) == order) {
                    places.append((char) ('a' + hue));
                }
            }
        }
        return places.toString();
    }

    /** Each rope as look() tells it, with "/" between them. */
    static String looks(PennantRopes x) {
        StringBuilder ropes = new StringBuilder();
        for (int rope = 0; rope < x.count(0); rope++) {
            ropes.append(rope == 0 ? "" : "/").append(look(x, rope));
        }
        return ropes.toString();
    }

    static void write(PennantRopes x, String text) {
        for (int index = 0; index < text.length(); index++) {
            x.append(text.charAt(index));
        }
    }

    static int play(PennantRopes x, String text) {
        write(x, text);
        return x.play();
    }

    /** A new object on which each part of the text was possible. */
    static PennantRopes played(String text) {
        PennantRopes x = new PennantRopes();
        same("parts of " + text, play(x, text), text.split(",").length);
        return x;
    }

    /** Runs each test of a class that belongs to a sentence. */
    static void sentences(Class<?> tests) {
        Method[] methods = tests.getDeclaredMethods();
        Arrays.sort(methods, Comparator.comparing(Method::getName));
        int run = 0;
        for (Method method : methods) {
            if (method.isAnnotationPresent(Sentence.class)) {
                run(method);
                run++;
            }
        }
        System.out.println(run + " tests of sentences");
        end();
    }

    static void end() {
        System.out.println(checks + " checks, " + wrong + " wrong");
        if (wrong != 0 || checks == 0) {
            System.exit(1);
        }
    }

    private static void run(Method method) {
        Sentence of = method.getAnnotation(Sentence.class);
        sentence = of.of() + ", \"" + of.says() + "\", " + method.getName() + ": ";
        int before = checks;
        try {
            method.invoke(null);
        } catch (InvocationTargetException e) {
            checked("the test", false, e.getCause(), "its end");
        } catch (IllegalAccessException e) {
            checked("the test", false, e, "a method that is not private");
        }
        checked("the test", checks > before, "nothing", "some check");
        sentence = "";
    }

    private static void checked(String what, boolean right, Object got, Object due) {
        checks++;
        if (!right) {
            wrong++;
            System.out.println(sentence + what + " answered " + got + ", due is " + due);
        }
    }
}
