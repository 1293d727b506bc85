import java.lang.reflect.Method;
import java.util.ArrayList;
import java.util.Arrays;
import java.util.Comparator;
import java.util.List;
import java.util.Random;

/** Runs of calls by lots (always the same ones) on a ThumbReader and a PlainReader, whose answers are due. */
public final class PlainRunsTest {
    private static final int RUNS = 600;
    private static final int CALLS = 400;

    private final ThumbReader quick = new ThumbReader();
    private final PlainReader plain = new PlainReader();
    private final List<String> run = new ArrayList<>();
    private final Random random;

    private PlainRunsTest(long seed) {
        random = new Random(seed);
    }

    public static void main(String[] args) throws Exception {
        Method[] calls = ThumbReader.class.getMethods();
        List<Method> face = new ArrayList<>();
        for (Method call : calls) {
            if (call.getDeclaringClass() == ThumbReader.class) {
                face.add(call);
            }
        }
        face.sort(Comparator.comparing(Method::getName));
        for (int seed = 0; seed < RUNS; seed++) {
            PlainRunsTest test = new PlainRunsTest(seed);
            if (!test.go(face)) {
                System.out.println("run " + seed + ":");
                for (String call : test.run) {
                    System.out.println("  " + call);
                }
                System.exit(1);
            }
        }
        System.out.println(RUNS + " runs are as due");
    }

    private boolean go(List<Method> face) throws Exception {
        boolean good = true;
        for (int i = 0; i < CALLS && good; i++) {
            int what = random.nextInt(100);
            if (i == 0 && random.nextInt(10) > 0 || what < 2) {
                good = writeOffice();
            } else if (what < 14) {
                good = fillRow();
            } else {
                Method call = face.get(random.nextInt(face.size()));
                boolean rare = call.getName().equals("office") || call.getName().equals("text");
                if (!rare || random.nextInt(8) == 0) {
                    good = same(call.getName(), numbersFor(call));
                }
            }
        }
        return good;
    }

    private boolean same(String name, int... numbers) throws Exception {
        Class<?>[] types = new Class<?>[numbers.length];
        Object[] arguments = new Object[numbers.length];
        for (int i = 0; i < numbers.length; i++) {
            types[i] = int.class;
            arguments[i] = numbers[i];
        }
        long got = ((Number) ThumbReader.class.getMethod(name, types).invoke(quick, arguments)).longValue();
        Method due = PlainReader.class.getMethod(name, types);
        due.setAccessible(true);
        long want = ((Number) due.invoke(plain, arguments)).longValue();
        run.add(name + Arrays.toString(numbers) + " answered " + got + ", due is " + want);
        boolean good = got == want && quick.asked() == plain.asked() && quick.upper() == plain.upper()
            && quick.lower() == plain.lower() && quick.finding() == plain.finding()
            && quick.digest() == plain.digest();
        for (int f = 1; f <= 5; f++) {
            good &= quick.findings(f) == plain.findings(f);
        }
        return good;
    }

    private int[] numbersFor(Method call) {
        int[] numbers = new int[call.getParameterCount()];
        for (int i = 0; i < numbers.length; i++) {
            int what = random.nextInt(200);
            numbers[i] = what < 180 ? random.nextInt(4) : what < 198 ? random.nextInt(9) - 2 : random.nextInt();
        }
        if (call.getName().equals("lots")) {
            numbers[1] = random.nextInt(7);
            numbers[2] = random.nextInt();
        }
        if (call.getName().equals("undo")) {
            numbers[0] = random.nextInt(12) - 1;
        }
        return numbers;
    }

    private boolean fillRow() throws Exception {
        int r = random.nextInt(6);
        int kind = random.nextInt(4);
        int size = kind == 0 ? 4 : kind == 1 ? 3 * random.nextInt(4) : kind == 2 ? plain.count(0) : random.nextInt(43) - 1;
        boolean good = same("row", r, size);
        if (kind == 0 && plain.count(1) > 0) {
            // Near a HEAD by a THUMB, so that it fits some.
            int t = random.nextInt(plain.count(1));
            int h = random.nextInt(plain.count(0));
            for (int place = 0; place < 4 && good; place++) {
                good = same("reads", t, h, place);
                int number = random.nextInt(3) == 0 ? plain.asked() : plain.reads(t, h, place);
                good = good && same("lay", r, place, random.nextInt(40) == 0 ? 10 : number);
            }
            return good;
        }
        for (int i = 0; i < size && good; i++) {
            int top = kind == 1 ? (i % 3 == 2 ? 10 : 4) : kind == 2 ? 2 : 9;
            good = same("lay", r, i, random.nextInt(60) == 0 ? random.nextInt() : random.nextInt(top));
        }
        return good;
    }

    private boolean writeOffice() throws Exception {
        StringBuilder signs = new StringBuilder();
        boolean nice = random.nextInt(4) > 0;
        int heads = nice ? 1 + random.nextInt(5) : random.nextInt(7);
        for (int h = 0; h < heads; h++) {
            item(signs, "h", 5, 5, 5, 5, 3);
        }
        int thumbs = nice ? 1 + random.nextInt(4) : random.nextInt(6);
        for (int t = 0; t < thumbs; t++) {
            item(signs, "tvlwcd".substring(random.nextInt(6)).substring(0, 1), 2, 3);
        }
        int posts = random.nextInt(nice ? 5 : 6);
        for (int p = 0; p < posts; p++) {
            item(signs, "p", 4, 4, random.nextInt(7), random.nextInt(7), 8);
            int last = signs.length() - 1;
            signs.setCharAt(last, (char) (signs.charAt(last) + 1));
        }
        if (!nice && signs.length() > 0 && random.nextInt(3) == 0) {
            signs.setLength(random.nextInt(signs.length()));
        }
        if (!nice && signs.length() > 0 && random.nextInt(3) == 0) {
            signs.setCharAt(random.nextInt(signs.length()), "htp 0567\u00e9".charAt(random.nextInt(9)));
        }
        if (!nice && random.nextInt(4) == 0) {
            signs.append("   ");
        }
        int size = Math.min(80, signs.length());
        int t = random.nextInt(4);
        boolean good = same("text", t, size);
        for (int i = 0; i < size && good; i++) {
            good = same("put", t, i, signs.charAt(i));
        }
        return good && same("fault", t) && same("office", t);
    }

    private void item(StringBuilder signs, String letter, int... tops) {
        signs.append(" ".repeat(random.nextInt(5) / 4));
        signs.append(letter);
        for (int top : tops) {
            signs.append((char) ('0' + random.nextInt(top + 1)));
        }
    }
}
