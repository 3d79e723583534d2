import java.util.NoSuchElementException;

/** What the tests have in common: texts fed, answers compared, exceptions awaited. */
final class Kit {
    private static int wrong = 0;
    private static String trying = "";

    private Kit() {
    }

    /** A call whose exception is awaited. */
    interface Call {
        long run();
    }

    /** What is told ahead of each answer from now on that is not due. */
    static void trying(String what) {
        trying = what;
    }

    static void fail(String what) {
        wrong++;
        System.out.println(trying + what);
    }

    static void due(String what, long got, long want) {
        if (got != want) {
            fail(what + " answered " + got + ", due is " + want);
        }
    }

    static void due(String what, boolean got, boolean want) {
        due(what, got ? 1 : 0, want ? 1 : 0);
    }

    /** The call must throw just this exception, by the name of its class. */
    static void dueThrow(String what, String name, Call call) {
        String got = thrownBy(call);
        if (!got.equals(name)) {
            fail(what + " threw " + got + ", due is " + name);
        }
    }

    static void dueBounds(String what, Call call) {
        dueThrow(what, "IndexOutOfBoundsException", call);
    }

    static void dueArgument(String what, Call call) {
        dueThrow(what, "IllegalArgumentException", call);
    }

    static void dueState(String what, Call call) {
        dueThrow(what, "IllegalStateException", call);
    }

    static void dueNoElement(String what, Call call) {
        dueThrow(what, "NoSuchElementException", call);
    }

    static String thrownBy(Call call) {
        try {
            call.run();
            return "nothing";
        } catch (IllegalArgumentException | IllegalStateException | IndexOutOfBoundsException
                | UnsupportedOperationException | NoSuchElementException e) {
            return e.getClass().getSimpleName();
        }
    }

    /** Puts just these bytes on the tape, which must be empty. */
    static void feed(OldFences x, int... bytes) {
        for (int from = 0; from < bytes.length; from += 20) {
            int[] n = new int[5];
            for (int i = 0; i < 20 && from + i < bytes.length; i++) {
                n[i / 4] |= (bytes[from + i] & 255) << 24 - 8 * (i % 4);
            }
            x.feed(n[0], n[1], n[2], n[3], n[4]);
        }
        x.end(bytes.length);
    }

    static void feed(OldFences x, String text) {
        int[] bytes = new int[text.length()];
        for (int i = 0; i < bytes.length; i++) {
            bytes[i] = text.charAt(i);
        }
        feed(x, bytes);
    }

    static int county(OldFences x, String text) {
        feed(x, text);
        return x.county();
    }

    static int law(OldFences x, String text) {
        feed(x, text);
        return x.law();
    }

    /** A new county with these texts told. */
    static OldFences told(String... texts) {
        OldFences x = new OldFences();
        for (String text : texts) {
            county(x, text);
        }
        return x;
    }

    static void dueWrongCounty(String text, int fault) {
        OldFences x = new OldFences();
        feed(x, text);
        dueArgument("county \"" + text + "\"", () -> x.county());
        due("fault of county \"" + text + "\"", x.fault(), fault);
        due("texts after wrong \"" + text + "\"", x.count(2), 0);
        due("fences after wrong \"" + text + "\"", x.count(1), 0);
        due("families after wrong \"" + text + "\"", x.count(0), 0);
    }

    static void dueWrongLaw(String text, int fault) {
        OldFences x = new OldFences();
        feed(x, text);
        dueArgument("law \"" + text + "\"", () -> x.law());
        due("fault of law \"" + text + "\"", x.fault(), fault);
        due("lines after wrong \"" + text + "\"", x.count(3), -1);
    }

    /** Ends a test: exit code 1 if an answer was not due. */
    static void close(String name) {
        System.out.println(name + ": " + (wrong == 0 ? "all answers are as due" : wrong + " answers are not as due"));
        if (wrong != 0) {
            System.exit(1);
        }
    }
}
