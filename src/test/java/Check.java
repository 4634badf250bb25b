/** Compares answers with the ones that are due, and tells what differs. */
final class Check {
    interface Call {
        long answer();
    }

    static final Class<IndexOutOfBoundsException> INDEX = IndexOutOfBoundsException.class;
    static final Class<IllegalArgumentException> ARGUMENT = IllegalArgumentException.class;
    static final Class<IllegalStateException> STATE = IllegalStateException.class;

    private static int checks = 0;
    private static int wrong = 0;

    private Check() {
    }

    static void same(String what, long got, long due) {
        checked(what, got == due, got, due);
    }

    static void sameDouble(String what, double got, double due) {
        checked(what, Double.doubleToLongBits(got) == Double.doubleToLongBits(due), got, due);
    }

    static void sameText(String what, String got, String due) {
        checked(what, got.equals(due), got, due);
    }

    /** The exception must be of the very class, not of one below it, and must change nothing. */
    static void fails(String what, PennantRopes x, Class<? extends RuntimeException> due, Call call) {
        long before = x.digest();
        String got;
        try {
            got = "answered " + call.answer();
        } catch (RuntimeException e) {
            got = e.getClass().getName();
        }
        checked(what, got.equals(due.getName()), got, due.getName());
        checked("digest behind " + what, x.digest() == before, x.digest(), before);
    }

    /** The places of a rope, "a" to "h" and "." for a hole, and behind a blank its hues in their order. */
    static String look(PennantRopes x, int rope) {
        StringBuilder places = new StringBuilder();
        for (int place = 0; place < x.ropeOf(rope, 0); place++) {
            int hue = x.place(rope, place);
            places.append(hue == PennantRopes.NONE ? '.' : (char) ('a' + hue));
        }
        places.append(' ');
        for (int order = 0; order < 8; order++) {
            for (int hue = 0; hue < 8; hue++) {
                if (x.hueOf(rope, hue, 3) == order) {
                    places.append((char) ('a' + hue));
                }
            }
        }
        return places.toString();
    }

    static void write(PennantRopes x, String text) {
        for (int index = 0; index < text.length(); index++) {
            x.append(text.charAt(index));
        }
    }

    static int play(PennantRopes x, String text) {
        write(x, text);
        return x.play();
    }

    static void end() {
        System.out.println(checks + " checks, " + wrong + " wrong");
        if (wrong != 0 || checks == 0) {
            System.exit(1);
        }
    }

    private static void checked(String what, boolean right, Object got, Object due) {
        checks++;
        if (!right) {
            wrong++;
            System.out.println(what + " answered " + got + ", due is " + due);
        }
    }
}
