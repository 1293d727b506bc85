import java.lang.reflect.Method;
import java.util.ArrayList;
import java.util.Collections;
import java.util.List;
import java.util.Random;

/** Runs of calls by lots (always the same ones) on a ThumbReader and a PlainReader, whose answers are due. */
public final class PlainRunsTest {
    private static final int RUNS = 3000;

    private final Pair pair = new Pair();
    private final Random random;

    private PlainRunsTest(long seed) {
        random = new Random(seed);
    }

    public static void main(String[] args) throws Exception {
        for (int seed = 0; seed < RUNS; seed++) {
            PlainRunsTest test = new PlainRunsTest(seed);
            if (!test.go()) {
                test.pair.print("run " + seed);
                System.exit(1);
            }
        }
        System.out.println(RUNS + " runs are as due");
    }

    private boolean go() throws Exception {
        // A run likes some calls better than others, so that it comes far with them: to 40 DEEDS, for one.
        List<Method> liked = new ArrayList<>(Pair.face());
        Collections.shuffle(liked, random);
        liked = liked.subList(0, 3 + random.nextInt(12));
        if (random.nextInt(10) > 0) {
            writeOffice(random.nextInt(4) > 0);
        }
        while (pair.hasRoom()) {
            int what = random.nextInt(100);
            if (what < 1) {
                writeOffice(random.nextInt(2) > 0);
            } else if (what < 12) {
                fillRow();
            } else {
                List<Method> from = what < 60 ? liked : Pair.face();
                Method call = from.get(random.nextInt(from.size()));
                boolean rare = call.getName().equals("office") || call.getName().equals("text");
                if (!rare || random.nextInt(8) == 0) {
                    pair.sameAndTold(call.getName(), numbersFor(call));
                }
            }
        }
        return pair.end();
    }

    private int[] numbersFor(Method call) {
        int[] numbers = new int[call.getParameterCount()];
        for (int i = 0; i < numbers.length; i++) {
            int what = random.nextInt(200);
            numbers[i] = what < 180 ? random.nextInt(4) : what < 198 ? random.nextInt(9) - 2 : random.nextInt();
        }
        if (call.getName().equals("lots")) {
            numbers[1] = random.nextInt(7);
            numbers[2] = random.nextInt();
        }
        if (call.getName().equals("undo")) {
            numbers[0] = random.nextInt(42) - 1;
        }
        return numbers;
    }

    private void fillRow() throws Exception {
        int r = random.nextInt(6);
        int kind = random.nextInt(4);
        int size = kind == 0 ? 4 : kind == 1 ? 3 * random.nextInt(4) : kind == 2 ? pair.plain.count(0) : random.nextInt(43) - 1;
        pair.same("row", r, size);
        int thumbs = pair.plain.count(1);
        int t = thumbs == 0 ? 0 : random.nextInt(thumbs);
        int h = thumbs == 0 ? 0 : random.nextInt(pair.plain.count(0));
        for (int i = 0; i < size; i++) {
            int top = kind == 1 ? (i % 3 == 2 ? 10 : 4) : kind == 2 ? 2 : 9;
            int number = random.nextInt(60) == 0 ? random.nextInt() : random.nextInt(top);
            if (kind == 0 && thumbs > 0 && random.nextInt(40) > 0) {
                // Near a HEAD by a THUMB, so that it fits some.
                pair.same("reads", t, h, i);
                int least = pair.plain.reads(t, h, i);
                number = random.nextInt(3) == 0 ? pair.plain.asked() : least;
            }
            pair.same("lay", r, i, number);
        }
    }

    private void writeOffice(boolean nice) throws Exception {
        StringBuilder signs = new StringBuilder();
        int heads = nice ? 1 + random.nextInt(5) : random.nextInt(7);
        for (int h = 0; h < heads; h++) {
            item(signs, "h", 5, 5, 5, 5, 3);
        }
        int thumbs = nice ? 1 + random.nextInt(4) : random.nextInt(6);
        for (int t = 0; t < thumbs; t++) {
            item(signs, "tvlwcd".substring(random.nextInt(6)).substring(0, 1), 2, 3);
        }
        int posts = random.nextInt(nice ? 5 : 6);
        for (int p = 0; p < posts; p++) {
            item(signs, "p", 4, 4, random.nextInt(7), random.nextInt(7), 8);
            int last = signs.length() - 1;
            signs.setCharAt(last, (char) (signs.charAt(last) + 1));
        }
        if (!nice && signs.length() > 0 && random.nextInt(3) == 0) {
            signs.setLength(random.nextInt(signs.length()));
        }
        if (!nice && signs.length() > 0 && random.nextInt(3) == 0) {
            signs.setCharAt(random.nextInt(signs.length()), "htp 0567\u00e9".charAt(random.nextInt(9)));
        }
        if (!nice && random.nextInt(4) == 0) {
            signs.append("   ");
        }
        int t = random.nextInt(4);
        pair.write(t, signs.substring(0, Math.min(80, signs.length())));
        pair.sameAndTold("fault", t);
        pair.sameAndTold("office", t);
    }

    private void item(StringBuilder signs, String letter, int... tops) {
        signs.append(" ".repeat(random.nextInt(5) / 4));
        signs.append(letter);
        for (int top : tops) {
            signs.append((char) ('0' + random.nextInt(top + 1)));
        }
    }
}
