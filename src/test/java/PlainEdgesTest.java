import java.lang.reflect.Method;
import java.util.List;

/** Each call with all of the numbers at the edges of what is told, in offices of all sorts, against PlainReader. */
public final class PlainEdgesTest {
    private static final int MIN = Integer.MIN_VALUE, MAX = Integer.MAX_VALUE;

    /** By how many numbers a call takes: the more, the fewer of them can be tried. */
    private static final int[][] NUMBERS = {
        {},
        {MIN, -2, -1, 0, 1, 2, 3, 4, 5, 6, 7, 8, 9, 39, 40, 41, 79, 80, 81, MAX - 1, MAX},
        {MIN, -1, 0, 1, 2, 3, 4, 5, 6, 39, 40, 41, 79, 80, 81, MAX},
        {MIN, -1, 0, 1, 2, 3, 4, 5, 6, MAX - 1, MAX},
        {MIN, -1, 0, 1, 3, 4, 5, 6, MAX},
        {MIN, -1, 0, 1, 4, 6, MAX}};

    private interface Made {
        void in(Pair pair) throws ReflectiveOperationException;
    }

    private static int tried = 0;

    private PlainEdgesTest() {
    }

    public static void main(String[] args) throws Exception {
        List<Made> offices = List.of(pair -> { }, PlainEdgesTest::whole, PlainEdgesTest::small, PlainEdgesTest::bare,
            PlainEdgesTest::unfilled, PlainEdgesTest::full);
        for (int o = 0; o < offices.size(); o++) {
            for (Method call : Pair.face()) {
                if (!sweep(call, offices.get(o))) {
                    System.out.println("office " + o);
                    System.exit(1);
                }
            }
        }
        System.out.println(tried + " calls are as due");
    }

    private static boolean sweep(Method call, Made made) throws ReflectiveOperationException {
        int[] edges = NUMBERS[call.getParameterCount()];
        int many = 1;
        for (int i = 0; i < call.getParameterCount(); i++) {
            many *= edges.length;
        }
        Pair pair = fresh(made);
        long digest = pair.plain.digest();
        for (int n = 0; n < many && pair.isGood(); n++) {
            int[] numbers = new int[call.getParameterCount()];
            int rest = n;
            for (int i = 0; i < numbers.length; i++) {
                numbers[i] = edges[rest % edges.length];
                rest /= edges.length;
            }
            pair.sameAndTold(call.getName(), numbers);
            tried++;
            // The next one finds what was there ahead of this one.
            if (pair.isGood() && (!pair.hasRoom() || pair.plain.digest() != digest)) {
                if (!pair.end()) {
                    break;
                }
                pair = fresh(made);
            }
        }
        if (!pair.end()) {
            pair.print(call.getName());
        }
        return pair.isGood();
    }

    private static Pair fresh(Made made) throws ReflectiveOperationException {
        Pair pair = new Pair();
        made.in(pair);
        return pair;
    }

    private static void office(Pair pair, String signs) throws ReflectiveOperationException {
        pair.write(0, signs);
        pair.sameAndTold("office", 0);
    }

    /** As many as there may be, ROWS and TEXTS of all sorts, DEEDS, an OFFICE kept. */
    private static void whole(Pair pair) throws ReflectiveOperationException {
        office(pair, Edge.WHOLE);
        pair.fill(0, 1, 3, 5, 2);
        pair.fill(1, 0, 0, 2, 1, 3, 5);
        pair.fill(2, 1, 0, 0, 1, 0);
        pair.same("row", 3, 0);
        pair.same("row", 4, 40);
        pair.same("lay", 4, 39, 7);
        pair.same("text", 1, 0);
        pair.write(2, "h0000");
        pair.same("pad", 0, 0);
        pair.same("cut", 1, 1);
        pair.same("keep", 1);
        pair.same("grow", 2);
        pair.same("error", 0, 2);
        pair.same("luck", 0, 0, 0);
        pair.same("at", 5, 0);
        pair.sameAndTold("head", 3, 5);
    }

    /** One of each sort, a READING and what became of the HEAD. */
    private static void small(Pair pair) throws ReflectiveOperationException {
        office(pair, "h23412 d13 p11119");
        pair.fill(0, 0, 1, 2, 0);
        pair.fill(1, 1);
        pair.fill(5, 0, 3, 0);
    }

    /** HEADS alone. */
    private static void bare(Pair pair) throws ReflectiveOperationException {
        office(pair, "h23412 h00000");
        pair.fill(0, 2, 3, 4, 1);
        pair.fill(1, 1, 0);
        pair.fill(2, 1, 3, 9);
        pair.fill(3, 2, 0, 0);
    }

    /** HEADS and POSTS, no THUMBS; READINGS that are none. */
    private static void unfilled(Pair pair) throws ReflectiveOperationException {
        office(pair, "h23412 h44440 h55553 p11111 p60002 p00069");
        pair.fill(0, 2, 3, 4, 10);
        pair.fill(1, -1, 3, 4, 1);
        pair.fill(2, 1, 0, 2);
        pair.fill(3, 0, 0, 0, 0);
    }

    /** 40 DEEDS, all OFFICES kept. */
    private static void full(Pair pair) throws ReflectiveOperationException {
        office(pair, "h55550 h00003 w12 c20 p22221 p55554");
        pair.fill(0, 4, 4, 6, 4);
        pair.fill(1, 1, 0);
        for (int d = 0; d < 40; d++) {
            pair.same("grow", 0);
            if (d % 14 == 0) {
                pair.same("keep", d / 14);
            }
        }
    }
}
