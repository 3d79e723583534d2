import java.lang.reflect.InvocationTargetException;
import java.lang.reflect.Method;
import java.util.ArrayList;
import java.util.Arrays;
import java.util.Comparator;
import java.util.List;
import java.util.function.ToLongFunction;

/** What the tests of boundary sentences have in common: how they are run, and how refused calls are looked at. */
final class Edges {
    static final int[] NO_CELLS = {-1, 36, Integer.MIN_VALUE, Integer.MAX_VALUE};
    static final int[] NO_BORDERS = {-1, 60, Integer.MIN_VALUE, Integer.MAX_VALUE};
    static final int[] NO_CORNERS = {-1, 49, Integer.MIN_VALUE, Integer.MAX_VALUE};
    /** No families of the lively county, which has two. */
    static final int[] NO_FAMILIES = {-1, 2, 6, Integer.MIN_VALUE, Integer.MAX_VALUE};
    static final int[] NO_HEIGHTS = {-1, 1000, Integer.MIN_VALUE, Integer.MAX_VALUE};
    /** Of AHEAD, TRIAL and SPAN. */
    static final int[] NO_YEARS = {-1, 101, Integer.MIN_VALUE, Integer.MAX_VALUE};

    static final String BOUNDS = "IndexOutOfBoundsException";
    static final String ARGUMENT = "IllegalArgumentException";
    static final String STATE = "IllegalStateException";
    static final String NO_ELEMENT = "NoSuchElementException";
    static final String UNSUPPORTED = "UnsupportedOperationException";

    private Edges() {
    }

    /** Runs each test of a class that quotes a sentence, and ends the program. */
    static void run(Class<?> tests) {
        for (Method test : of(tests)) {
            Says says = test.getAnnotation(Says.class);
            Kit.trying("promise " + says.promise() + ", \"" + says.sentence() + "\": ");
            run(test);
        }
        Kit.trying("");
        Kit.close(tests.getSimpleName());
    }

    private static void run(Method test) {
        try {
            test.invoke(null);
        } catch (InvocationTargetException e) {
            Kit.fail(test.getName() + " broke off by " + e.getCause());
        } catch (IllegalAccessException e) {
            Kit.fail(test.getName() + " cannot be called");
        }
    }

    static List<Method> of(Class<?> tests) {
        List<Method> all = new ArrayList<>(Arrays.asList(tests.getDeclaredMethods()));
        all.removeIf(method -> !method.isAnnotationPresent(Says.class));
        all.sort(Comparator.<Method>comparingInt(m -> m.getAnnotation(Says.class).promise())
                .thenComparing(Method::getName));
        return all;
    }

    // ---- counties to try on ----

    /** A county with something of everything (two families, a fault, an image), and this on the tape. */
    static OldFences lively(String tape) {
        OldFences x = Kit.told("fence 0 1 age 7 high 20 gate;fence 1 2 high 12 string;fence 6 7 age 998 high 3;"
                + "family at 7 climbs 20;family at 22 climbs 5 eyes 9;quarrel 60;year 95");
        Kit.law(x, "grow 2;sink 1 if gate;sore 3 if high > 2");
        x.image();
        x.raise(50);
        x.years(3);
        x.again(0, 4);
        x.pull(50);
        x.learn(1, 7);
        Kit.feed(x, "grow x");
        Kit.thrownBy(() -> x.law());
        Kit.feed(x, tape);
        return x;
    }

    /** All 60 borders with a fence of this height; four texts. */
    static OldFences grown(int high) {
        OldFences x = Kit.told("row 0 high " + high + ";row 1 high " + high + ";row 2 high " + high
                + ";row 3 high " + high + ";row 4 high " + high);
        for (int from = 0; from < 30; from += 10) {
            StringBuilder text = new StringBuilder();
            for (int border = from; border < from + 10; border++) {
                int cell = border / 5 * 6 + border % 5;
                text.append(border == from ? "" : ";").append("fence ").append(cell).append(' ').append(cell + 1)
                        .append(" high ").append(high);
            }
            Kit.county(x, text.toString());
        }
        return x;
    }

    /** The smallest SEED from 1 on by which DRAW modulo 100 is below QUARREL and the next DRAW modulo 4 is this side. */
    static int seedFor(int quarrel, int side) {
        for (int seed = 1; seed < 100000; seed++) {
            int next = nextSeed(seed);
            if (drawOf(next) % 100 < quarrel && drawOf(nextSeed(next)) % 4 == side) {
                return seed;
            }
        }
        throw new IllegalStateException("no seed");
    }

    /** In 64 bits, so that the program's way of going round is not taken for granted. */
    static int nextSeed(int seed) {
        long wide = (1103515245L * (seed & 0xFFFFFFFFL) + 12345L) % (1L << 32);
        return (int) wide;
    }

    /** DRAW of a SEED that has just come. */
    static int drawOf(int seed) {
        return (int) ((seed & 0xFFFFFFFFL) / 65536 % 32768);
    }

    // ---- texts ----

    /** All words and signs of both kinds of texts, a number, and some things that are none. */
    private static final String[] THINGS = ("fence row family quarrel year age high gate string at climbs eyes grow sink"
            + " sore if or and not across border x y ; ( ) + < > 7 z fenc A \u00ff - , = & |").split(" ");

    /** A check that a text is wrong at this byte. */
    interface WrongText {
        void check(String text, int fault);
    }

    /** Behind this text nothing else can stand than what is allowed, told with blanks between. */
    static void dueNext(WrongText wrong, String text, String allowed) {
        for (String thing : THINGS) {
            if (!(" " + allowed + " ").contains(" " + thing + " ")) {
                wrong.check(text + " " + thing, text.length() + 1);
            }
        }
    }

    // ---- refused calls ----

    /** The call throws this, and all is as it would be without the call, the tape and fault(), too. */
    static void refused(String what, String exception, ToLongFunction<OldFences> call) {
        OldFences x = lively("year 777");
        OldFences untouched = lively("year 777");
        Kit.dueThrow(what, exception, () -> call.applyAsLong(x));
        Kit.due(what + ", then fault", x.fault(), untouched.fault());
        alike(what, x, untouched);
    }

    /** What is on the tape is refused: the tape is used up, fault() is this, and nothing else changes. */
    static void tapeRefused(String what, String exception, String tape, int fault, ToLongFunction<OldFences> call) {
        OldFences x = lively(tape);
        OldFences untouched = lively("");
        Kit.dueThrow(what, exception, () -> call.applyAsLong(x));
        Kit.due(what + ", then fault", x.fault(), fault);
        alike(what, x, untouched);
    }

    /** The call answers this, and all is as it would be without the call. */
    static void changesNothing(String what, long answer, ToLongFunction<OldFences> call) {
        OldFences x = lively("year 777");
        OldFences untouched = lively("year 777");
        Kit.due(what, call.applyAsLong(x), answer);
        Kit.due(what + ", then fault", x.fault(), untouched.fault());
        alike(what, x, untouched);
    }

    static void alike(String what, OldFences x, OldFences other) {
        List<Long> got = readout(x);
        List<Long> want = readout(other);
        if (!got.equals(want)) {
            Kit.fail(what + " changed something: " + got + ", due is " + want);
        }
    }

    /** All that can be read of a county but fault(); uses up its acts, its tape and some 300 calls. */
    static List<Long> readout(OldFences x) {
        List<Long> all = new ArrayList<>();
        addCounts(all, x);
        for (int border = 0; border < 60; border++) {
            int there = x.border(border, 0);
            all.add((long) there);
            for (int what = 1; what <= 6 * there; what++) {
                all.add((long) x.border(border, what));
            }
        }
        addFamilies(all, x);
        for (int ago = 0; ago < x.count(10); ago++) {
            for (int what = 0; what < 5; what++) {
                all.add((long) x.log(ago, what));
            }
        }
        int seed = x.seed(0);
        x.seed(seed);
        all.add((long) seed);
        for (int i = 0; i < 13 && x.undo(); i++) {
            addCounts(all, x);
        }
        addTape(all, x);
        all.add(x.back() ? 1L : 0L);
        addCounts(all, x);
        addFamilies(all, x);
        return all;
    }

    private static void addCounts(List<Long> all, OldFences x) {
        for (int what = 0; what < 12; what++) {
            all.add((long) x.count(what));
        }
    }

    private static void addFamilies(List<Long> all, OldFences x) {
        for (int family = 0; family < x.count(0); family++) {
            for (int what = 0; what < 4; what++) {
                all.add((long) x.family(family, what));
            }
        }
    }

    /** What is on the tape shows as a text. */
    private static void addTape(List<Long> all, OldFences x) {
        String thrown = Kit.thrownBy(() -> {
            all.add((long) x.county());
            return 0;
        });
        all.add((long) thrown.length());
        all.add((long) x.count(4));
    }
}
