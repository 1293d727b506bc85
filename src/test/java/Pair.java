import java.lang.reflect.Method;
import java.util.ArrayList;
import java.util.Arrays;
import java.util.Comparator;
import java.util.HashMap;
import java.util.List;
import java.util.Map;

/** A ThumbReader and a PlainReader that get the same calls; the answers of the second one are due of the first. */
final class Pair {
    /** More than these are not promised. */
    static final int CALLS = 512;

    private static final Map<String, Method> QUICK = methods(ThumbReader.class);
    private static final Map<String, Method> PLAIN = methods(PlainReader.class);

    final PlainReader plain = new PlainReader();
    private final ThumbReader quick = new ThumbReader();
    private final List<String> run = new ArrayList<>();
    private int calls = 0;
    private boolean good = true;

    private static Map<String, Method> methods(Class<?> of) {
        Map<String, Method> methods = new HashMap<>();
        for (Method method : of.getMethods()) {
            if (method.getDeclaringClass() == of) {
                method.setAccessible(true);
                methods.put(method.getName(), method);
            }
        }
        return methods;
    }

    /** All calls of the face, by their names. */
    static List<Method> face() {
        List<Method> face = new ArrayList<>(QUICK.values());
        face.sort(Comparator.comparing(Method::getName));
        return face;
    }

    boolean isGood() {
        return good;
    }

    /** Whether a call, what is told behind it and the end still have their place among the promised calls. */
    boolean hasRoom() {
        return good && calls + 6 + 5 <= CALLS;
    }

    /** The answer alone is compared. */
    void same(String name, int... numbers) throws ReflectiveOperationException {
        if (!hasRoom()) {
            return;
        }
        Object[] arguments = Arrays.stream(numbers).boxed().toArray();
        calls++;
        long got = ((Number) QUICK.get(name).invoke(quick, arguments)).longValue();
        long want = ((Number) PLAIN.get(name).invoke(plain, arguments)).longValue();
        run.add(name + Arrays.toString(numbers) + " answered " + got + ", due is " + want);
        good = got == want;
    }

    /** The answer is compared, and all that is told behind it. */
    void sameAndTold(String name, int... numbers) throws ReflectiveOperationException {
        if (!hasRoom()) {
            return;
        }
        same(name, numbers);
        calls += 5;
        told("asked()", quick.asked(), plain.asked());
        told("upper()", quick.upper(), plain.upper());
        told("lower()", quick.lower(), plain.lower());
        told("finding()", quick.finding(), plain.finding());
        told("digest()", quick.digest(), plain.digest());
    }

    private void told(String what, long got, long want) {
        if (got != want) {
            run.add("then " + what + " answered " + got + ", due is " + want);
            good = false;
        }
    }

    /** How often each FINDING was answered; whether all was as due. */
    boolean end() {
        for (int f = 1; f <= 5; f++) {
            told("findings(" + f + ")", quick.findings(f), plain.findings(f));
        }
        return good;
    }

    void print(String what) {
        System.out.println(what + ":");
        for (String call : run) {
            System.out.println("  " + call);
        }
    }

    void fill(int r, int... places) throws ReflectiveOperationException {
        same("row", r, places.length);
        for (int i = 0; i < places.length; i++) {
            same("lay", r, i, places[i]);
        }
    }

    void write(int t, String signs) throws ReflectiveOperationException {
        same("text", t, signs.length());
        for (int i = 0; i < signs.length(); i++) {
            same("put", t, i, signs.charAt(i));
        }
    }
}
