import java.lang.reflect.Constructor;
import java.lang.reflect.Field;
import java.lang.reflect.Method;
import java.lang.reflect.Modifier;
import java.util.Arrays;
import java.util.HashSet;
import java.util.List;
import java.util.Set;
import java.util.TreeSet;

/** The public face is the document's: each member of it, with its exceptions, and no other one. */
public final class FaceTest {
    private static final String FACE = """
            feed(int int int int int) int
            end(int) boolean
            county() int IllegalArgumentException UnsupportedOperationException
            law() int IllegalArgumentException
            fault() int
            border(int int) int IndexOutOfBoundsException NoSuchElementException
            between(int int) int IndexOutOfBoundsException
            family(int int) int IndexOutOfBoundsException NoSuchElementException
            years(int) int IllegalArgumentException
            raise(int) int IndexOutOfBoundsException IllegalStateException
            pull(int) int IndexOutOfBoundsException IllegalStateException
            gate(int boolean) boolean IndexOutOfBoundsException IllegalStateException
            string(int boolean) boolean IndexOutOfBoundsException IllegalStateException
            again(int int) int IndexOutOfBoundsException IllegalArgumentException IllegalStateException
            forgive(int) int IndexOutOfBoundsException
            move(int int) int IndexOutOfBoundsException
            learn(int int) int IndexOutOfBoundsException IllegalArgumentException
            open(int int) boolean IndexOutOfBoundsException IllegalArgumentException
            far(int int) int IndexOutOfBoundsException
            meet(int int) boolean IndexOutOfBoundsException IllegalArgumentException
            halfway(int int) int IndexOutOfBoundsException IllegalArgumentException
            sees(int int) boolean IndexOutOfBoundsException
            waves() int
            hidden() int
            pulls(int int int) int IndexOutOfBoundsException IllegalArgumentException
            lowest(int int) int IndexOutOfBoundsException
            closes(int int int) int IndexOutOfBoundsException IllegalArgumentException
            lands(int) int IllegalArgumentException
            wide(int) int IllegalArgumentException
            land(int int) int IndexOutOfBoundsException IllegalArgumentException
            gaps(int) int IllegalArgumentException
            all(int) boolean IllegalArgumentException
            reach() int
            ladders() int
            one(int int) int IndexOutOfBoundsException
            walk(int int int) int IndexOutOfBoundsException IllegalArgumentException
            hangs(int) int IllegalArgumentException
            ends(int) int IllegalArgumentException
            seen(boolean) int IllegalArgumentException
            ask() int IllegalArgumentException
            loses(int int) int IndexOutOfBoundsException
            pairs(int) int IndexOutOfBoundsException
            rests(int int) int IndexOutOfBoundsException IllegalArgumentException
            odds(int int) int IndexOutOfBoundsException IllegalArgumentException
            oldest() int
            highest(boolean) int
            sorest() int
            twins() int
            ahead(int int) int IndexOutOfBoundsException IllegalArgumentException
            trial(int boolean) int IllegalArgumentException
            span(int boolean) int IllegalArgumentException
            led(int boolean) int IndexOutOfBoundsException
            log(int int) int NoSuchElementException
            seed(int) int
            undo() boolean
            image() void
            back() boolean
            count(int) int
            """;

    public static void main(String[] args) {
        Set<String> got = new TreeSet<>();
        Set<String> names = new HashSet<>();
        for (Method m : OldFences.class.getDeclaredMethods()) {
            if (Modifier.isPublic(m.getModifiers())) {
                got.add(signature(m));
                names.add(m.getName());
            }
        }
        for (Method m : OldFences.class.getDeclaredMethods()) {
            if (!Modifier.isPublic(m.getModifiers())) {
                due(m + " is private", Modifier.isPrivate(m.getModifiers()));
                due(m + " has a name of its own", !names.contains(m.getName()));
            }
        }
        Set<String> want = new TreeSet<>(List.of(FACE.strip().split("\n")));
        due("the face is the document's: " + got, got.equals(want));
        for (Field f : OldFences.class.getDeclaredFields()) {
            due(f + " is private", f.getName().equals("NONE") || Modifier.isPrivate(f.getModifiers()));
        }
        Constructor<?>[] constructors = OldFences.class.getDeclaredConstructors();
        due("one public constructor", constructors.length == 1 && Modifier.isPublic(constructors[0].getModifiers())
                && constructors[0].getParameterCount() == 0);
        due("final", Modifier.isFinal(OldFences.class.getModifiers()));
        for (Class<?> c : OldFences.class.getDeclaredClasses()) {
            due(c + " is static and hidden", Modifier.isStatic(c.getModifiers())
                    && !Modifier.isPublic(c.getModifiers()) && !Modifier.isProtected(c.getModifiers()));
        }
        Kit.close("FaceTest");
    }

    private static void due(String what, boolean holds) {
        Kit.due(what, holds, true);
    }

    private static String signature(Method m) {
        StringBuilder s = new StringBuilder(m.getName()).append('(');
        s.append(String.join(" ", names(m.getParameterTypes()))).append(") ").append(m.getReturnType().getSimpleName());
        for (String name : names(m.getExceptionTypes())) {
            s.append(' ').append(name);
        }
        return s.toString();
    }

    private static List<String> names(Class<?>[] types) {
        return Arrays.stream(types).map(Class::getSimpleName).toList();
    }
}
