import java.util.ArrayList;
import java.util.List;
import java.util.function.BooleanSupplier;

/** The document once more, slowly: by trying all readings, pads and plans. Its answers are due of ThumbReader. */
final class PlainReader {
    private static final class Refused extends RuntimeException {
        private static final long serialVersionUID = 1;
        final int answer;
        final int finding;

        Refused(int answer, int finding) {
            super(null, null, false, false);
            this.answer = answer;
            this.finding = finding;
        }
    }

    private interface Call {
        int answer();
    }

    private record Head(int[] bumps, int hair) {
        int felt(int place) {
            return hair > 1 ? Math.max(0, bumps[place] - 1) : bumps[place];
        }

        Head padded(int place) {
            int[] more = bumps.clone();
            more[place] = Math.min(5, more[place] + 1);
            return new Head(more, hair);
        }

        int together() {
            return bumps[0] + bumps[1] + bumps[2] + bumps[3];
        }
    }

    private record Thumb(char letter, int error, int wish) {
        int kind() {
            return "tvlwcd".indexOf(letter);
        }

        int middle(Head head, int place) {
            int felt = head.felt(place);
            return switch (letter) {
                case 'v' -> Math.max(0, felt - 1);
                case 'd' -> Math.min(3, Math.max(0, felt - 1));
                case 'l' -> felt + 1;
                case 'w' -> place == wish ? felt + 1 : felt;
                case 'c' -> place == wish ? felt + 2 : felt + 1;
                default -> felt;
            };
        }

        boolean mayRead(Head head, int place, int number) {
            return number >= 0 && Math.abs(number - middle(head, place)) <= error;
        }

        int least(Head head, int place) {
            int number = 0;
            while (!mayRead(head, place, number)) {
                number++;
            }
            return number;
        }

        int most(Head head, int place) {
            int number = 20;
            while (!mayRead(head, place, number)) {
                number--;
            }
            return number;
        }

        boolean fits(Head head, int[] reading) {
            for (int place = 0; place < 4; place++) {
                if (!mayRead(head, place, reading[place])) {
                    return false;
                }
            }
            return true;
        }

        List<int[]> readings(Head head) {
            List<int[]> all = new ArrayList<>();
            for (int n = 0; n < 10000; n++) {
                int[] reading = {n / 1000, n / 100 % 10, n / 10 % 10, n % 10};
                if (fits(head, reading)) {
                    all.add(reading);
                }
            }
            return all;
        }

        boolean sure(Head head, int[] post) {
            return least(head, 0) >= post[0] && least(head, 1) >= post[1]
                && least(head, 2) >= post[2] && least(head, 3) >= post[3];
        }

        boolean lucky(Head head, int[] post) {
            return most(head, 0) >= post[0] && most(head, 1) >= post[1]
                && most(head, 2) >= post[2] && most(head, 3) >= post[3];
        }
    }

    /** A state of the OFFICE behind each number of DEEDS: undoing takes the last ones off. */
    private record Saved(List<List<Head>> history, List<Thumb> thumbs) {
    }

    private final int[][] rows = new int[6][];
    private final byte[][] texts = new byte[4][];
    private List<List<Head>> history = new ArrayList<>(List.of(List.of()));
    private List<Thumb> thumbs = new ArrayList<>();
    private List<int[]> posts = new ArrayList<>();
    private final Saved[] kept = new Saved[3];
    private int asked;
    private long upper;
    private long lower = 1;
    private int finding;
    private final int[] findings = new int[6];

    private int call(Call call) {
        try {
            return call.answer();
        } catch (Refused refused) {
            if (refused.finding != 0) {
                finding = refused.finding;
                findings[finding]++;
            }
            return refused.answer;
        }
    }

    private static void bad(boolean so) {
        if (so) {
            throw new Refused(-1, 0);
        }
    }

    private static void state(boolean so) {
        if (so) {
            throw new Refused(-4, 0);
        }
    }

    private static void full(boolean so) {
        if (so) {
            throw new Refused(-2, 0);
        }
    }

    private static void finding(boolean so, int which) {
        if (so) {
            throw new Refused(-3, which);
        }
    }

    private static void finding(BooleanSupplier so, int which) {
        finding(so.getAsBoolean(), which);
    }

    private static boolean out(int i, int size) {
        return i < 0 || i >= size;
    }

    private int ask(int answer, int number) {
        asked = number;
        return answer;
    }

    private int fraction(long a, long b) {
        long divisor = java.math.BigInteger.valueOf(a).gcd(java.math.BigInteger.valueOf(b)).longValueExact();
        upper = a / divisor;
        lower = b / divisor;
        return 1;
    }

    private List<Head> heads() {
        return history.get(history.size() - 1);
    }

    private int deeds() {
        return history.size() - 1;
    }

    private void badThumb(int t) {
        bad(out(t, thumbs.size()));
    }

    private void badHead(int h) {
        bad(out(h, heads().size()));
    }

    private void badPost(int p) {
        bad(out(p, posts.size()));
    }

    private void badPlace(int place) {
        bad(out(place, 4));
    }

    private void badRow(int r) {
        bad(out(r, 6));
    }

    public int row(int r, int n) {
        return call(() -> {
            badRow(r);
            bad(n > 40);
            finding(n < 0, 5);
            rows[r] = new int[n];
            return n;
        });
    }

    public int lay(int r, int i, int v) {
        return call(() -> {
            badRow(r);
            finding(rows[r] == null, 1);
            finding(out(i, rows[r].length), 2);
            int was = rows[r][i];
            rows[r][i] = v;
            return ask(1, was);
        });
    }

    public int at(int r, int i) {
        return call(() -> {
            badRow(r);
            finding(rows[r] == null, 1);
            finding(out(i, rows[r].length), 2);
            return ask(1, rows[r][i]);
        });
    }

    public int tear(int r) {
        return call(() -> {
            badRow(r);
            finding(rows[r] == null, 1);
            rows[r] = null;
            return 1;
        });
    }

    public int copy(int r, int i, int to, int j, int n) {
        return call(() -> {
            badRow(r);
            badRow(to);
            finding(n < 0, 5);
            finding(rows[r] == null || rows[to] == null, 1);
            finding(i < 0 || j < 0 || (long) i + n > rows[r].length || (long) j + n > rows[to].length, 2);
            int[] taken = rows[r].clone();
            for (int k = 0; k < n; k++) {
                rows[to][j + k] = taken[i + k];
            }
            return 1;
        });
    }

    public int mean(int r) {
        return call(() -> {
            badRow(r);
            finding(rows[r] == null, 1);
            finding(rows[r].length == 0, 4);
            return ask(1, (int) (java.util.Arrays.stream(rows[r]).asLongStream().sum() / rows[r].length));
        });
    }

    public int text(int t, int n) {
        return call(() -> {
            bad(out(t, 4) || n > 80);
            finding(n < 0, 5);
            texts[t] = " ".repeat(n).getBytes(java.nio.charset.StandardCharsets.ISO_8859_1);
            return n;
        });
    }

    public int put(int t, int i, int v) {
        return call(() -> {
            bad(out(t, 4));
            finding(texts[t] == null, 1);
            finding(out(i, texts[t].length), 2);
            int was = texts[t][i];
            texts[t][i] = (byte) v;
            return was + 1000;
        });
    }

    /** The longest start of a TEXT that some OFFICE begins with, found by a pattern of OFFICES. */
    private static int faultOf(String signs) {
        String head = "h[0-5]{4}[0-3]";
        String thumb = "[tvlwcd][0-2][0-3]";
        String post = "p[0-6]{4}[1-9]";
        java.util.regex.Matcher whole = java.util.regex.Pattern
            .compile(" *(" + head + " *){1,5}(" + thumb + " *){0,4}(" + post + " *){0,4}").matcher(signs);
        if (whole.matches()) {
            return -9;
        }
        for (int n = signs.length(); n >= 0; n--) {
            whole.reset(signs.substring(0, n));
            if (whole.matches() || whole.hitEnd()) {
                return n;
            }
        }
        return 0;
    }

    public int fault(int t) {
        return call(() -> {
            bad(out(t, 4));
            finding(texts[t] == null, 1);
            return faultOf(new String(texts[t], java.nio.charset.StandardCharsets.ISO_8859_1));
        });
    }

    public int office(int t) {
        return call(() -> {
            bad(out(t, 4));
            finding(texts[t] == null, 1);
            String signs = new String(texts[t], java.nio.charset.StandardCharsets.ISO_8859_1);
            state(faultOf(signs) != -9);
            List<Head> first = new ArrayList<>();
            thumbs = new ArrayList<>();
            posts = new ArrayList<>();
            for (String item : signs.replaceAll("([a-z])", " $1").trim().split(" +")) {
                int[] figures = item.substring(1).chars().map(c -> c - '0').toArray();
                if (item.startsWith("h")) {
                    first.add(new Head(java.util.Arrays.copyOf(figures, 4), figures[4]));
                } else if (item.startsWith("p")) {
                    posts.add(figures);
                } else {
                    thumbs.add(new Thumb(item.charAt(0), figures[0], figures[1]));
                }
            }
            history = new ArrayList<>();
            history.add(first);
            java.util.Arrays.fill(kept, null);
            return first.size();
        });
    }

    private int ofHead(int h, int what) {
        Head head = heads().get(h);
        return what == 4 ? head.hair : what == 5 ? head.together() : head.bumps[what];
    }

    private int ofThumb(int t, int what) {
        Thumb thumb = thumbs.get(t);
        return what == 0 ? thumb.kind() : what == 1 ? thumb.error : thumb.wish;
    }

    public int head(int h, int what) {
        return call(() -> {
            badHead(h);
            bad(out(what, 6));
            return ask(1, ofHead(h, what));
        });
    }

    public int thumb(int t, int what) {
        return call(() -> {
            badThumb(t);
            bad(out(what, 3));
            return ask(1, ofThumb(t, what));
        });
    }

    public int post(int p, int what) {
        return call(() -> {
            badPost(p);
            bad(out(what, 5));
            return ask(1, posts.get(p)[what]);
        });
    }

    public int mark(int t, int kind) {
        return call(() -> {
            badThumb(t);
            bad(kind < 1 || kind > 5);
            Thumb thumb = thumbs.get(t);
            String like = new String[] {"", "vd", "l", "wc", "c", "d"}[kind];
            finding(like.indexOf(thumb.letter) < 0, 3);
            int answer = 0;
            for (Head head : heads()) {
                boolean most = true;
                for (int place = 0; place < 4; place++) {
                    if (kind == 1 && head.felt(place) == 0) {
                        answer++;
                    } else if (kind == 2) {
                        answer = Math.max(answer, thumb.most(head, place));
                    } else if (kind == 4) {
                        answer += thumb.least(head, place) - head.felt(place);
                    } else if (kind == 5 && thumb.middle(head, place) == 3) {
                        answer++;
                    }
                    most &= place == thumb.wish || thumb.least(head, place) < thumb.least(head, thumb.wish);
                }
                answer += kind == 3 && most ? 1 : 0;
            }
            return answer;
        });
    }

    public int error(int t, int v) {
        return call(() -> {
            badThumb(t);
            bad(out(v, 3));
            Thumb was = thumbs.get(t);
            thumbs.set(t, new Thumb(was.letter, v, was.wish));
            return was.error;
        });
    }

    private void done(int h, Head head) {
        List<Head> next = new ArrayList<>(heads());
        next.set(h, head);
        history.add(next);
    }

    public int pad(int h, int place) {
        return call(() -> {
            badHead(h);
            badPlace(place);
            state(ofHead(h, place) == 5);
            full(deeds() == 40);
            done(h, heads().get(h).padded(place));
            return ofHead(h, place);
        });
    }

    public int grow(int h) {
        return call(() -> {
            badHead(h);
            full(deeds() == 40);
            done(h, heads().get(h).padded(0).padded(1).padded(2).padded(3));
            return ofHead(h, 5);
        });
    }

    public int cut(int h, int v) {
        return call(() -> {
            badHead(h);
            bad(out(v, 3));
            int was = ofHead(h, 4);
            state(was <= v);
            full(deeds() == 40);
            done(h, new Head(heads().get(h).bumps, v));
            return was;
        });
    }

    public int undo(int n) {
        return call(() -> {
            bad(n < 0 || n > deeds());
            int undone = deeds() - n;
            history = new ArrayList<>(history.subList(0, n + 1));
            return undone;
        });
    }

    public int keep(int k) {
        return call(() -> {
            bad(out(k, 3));
            state(heads().isEmpty());
            kept[k] = new Saved(new ArrayList<>(history), new ArrayList<>(thumbs));
            return deeds();
        });
    }

    public int on(int k) {
        return call(() -> {
            bad(out(k, 3));
            finding(kept[k] == null, 1);
            history = new ArrayList<>(kept[k].history);
            thumbs = new ArrayList<>(kept[k].thumbs);
            return deeds();
        });
    }

    public int reads(int t, int h, int place) {
        return call(() -> {
            badThumb(t);
            badHead(h);
            badPlace(place);
            Head head = heads().get(h);
            return ask(thumbs.get(t).least(head, place), thumbs.get(t).most(head, place));
        });
    }

    private int[] reading(int r) {
        finding(rows[r] == null, 1);
        finding(rows[r].length != 4, 5);
        for (int number : rows[r]) {
            finding(out(number, 10), 3);
        }
        return rows[r];
    }

    public int fits(int t, int h, int r) {
        return call(() -> {
            badThumb(t);
            badHead(h);
            badRow(r);
            return thumbs.get(t).fits(heads().get(h), reading(r)) ? 1 : 0;
        });
    }

    private int whoseBy(Thumb thumb, int[] reading) {
        int bits = 0;
        for (int h = 0; h < heads().size(); h++) {
            bits += thumb.fits(heads().get(h), reading) ? 1 << h : 0;
        }
        return bits;
    }

    public int whose(int t, int r) {
        return call(() -> {
            badThumb(t);
            badRow(r);
            int[] reading = reading(r);
            int any = 0;
            for (Thumb thumb : thumbs) {
                any |= whoseBy(thumb, reading);
            }
            return ask(whoseBy(thumbs.get(t), reading), any);
        });
    }

    public int who(int h, int r) {
        return call(() -> {
            badHead(h);
            badRow(r);
            int[] reading = reading(r);
            int bits = 0;
            for (int t = 0; t < thumbs.size(); t++) {
                bits += thumbs.get(t).fits(heads().get(h), reading) ? 1 << t : 0;
            }
            return bits;
        });
    }

    public int odds(int t, int h, int r) {
        return call(() -> {
            badThumb(t);
            badHead(h);
            badRow(r);
            int[] reading = reading(r);
            Thumb thumb = thumbs.get(t);
            finding(() -> whoseBy(thumb, reading) == 0, 4);
            // All counts of READINGS divide 60 to the fourth.
            long common = 60L * 60 * 60 * 60;
            long sum = 0;
            long its = 0;
            for (int other = 0; other < heads().size(); other++) {
                if (thumb.fits(heads().get(other), reading)) {
                    long share = common / thumb.readings(heads().get(other)).size();
                    sum += share;
                    its += other == h ? share : 0;
                }
            }
            return fraction(its, sum);
        });
    }

    public int look(int t) {
        return call(() -> {
            badThumb(t);
            Thumb thumb = thumbs.get(t);
            int best = 0;
            int most = 0;
            for (int place = 0; place < 4; place++) {
                int pairs = 0;
                for (int a = 0; a < heads().size(); a++) {
                    for (int b = a + 1; b < heads().size(); b++) {
                        boolean common = false;
                        for (int number = 0; number < 20; number++) {
                            common |= thumb.mayRead(heads().get(a), place, number)
                                && thumb.mayRead(heads().get(b), place, number);
                        }
                        pairs += common ? 0 : 1;
                    }
                }
                if (pairs > most) {
                    most = pairs;
                    best = place;
                }
            }
            return ask(best, most);
        });
    }

    public int alike(int t, int h) {
        return call(() -> {
            badThumb(t);
            badHead(h);
            int bits = 0;
            for (int[] reading : thumbs.get(t).readings(heads().get(h))) {
                bits |= whoseBy(thumbs.get(t), reading);
            }
            return bits;
        });
    }

    public int suits(int t, int h, int p) {
        return call(() -> {
            badThumb(t);
            badHead(h);
            badPost(p);
            Head head = heads().get(h);
            return thumbs.get(t).sure(head, posts.get(p)) ? 2 : thumbs.get(t).lucky(head, posts.get(p)) ? 1 : 0;
        });
    }

    public int luck(int t, int h, int p) {
        return call(() -> {
            badThumb(t);
            badHead(h);
            badPost(p);
            int[] post = posts.get(p);
            List<int[]> all = thumbs.get(t).readings(heads().get(h));
            long good = all.stream().filter(reading -> reading[0] >= post[0] && reading[1] >= post[1]
                && reading[2] >= post[2] && reading[3] >= post[3]).count();
            return fraction(good, all.size());
        });
    }

    /** The fewest PADS of all ways to PAD four BUMPS up to 5; null: none. */
    private int[] fewest(List<Thumb> by, Head head, int[] post) {
        int[] best = null;
        int fewest = Integer.MAX_VALUE;
        for (int n = 0; n < 6 * 6 * 6 * 6; n++) {
            int[] more = {n / 216, n / 36 % 6, n / 6 % 6, n % 6};
            int[] bumps = head.bumps.clone();
            int sum = 0;
            boolean good = true;
            for (int place = 0; place < 4; place++) {
                bumps[place] += more[place];
                sum += more[place];
                good &= bumps[place] <= 5;
            }
            Head padded = new Head(bumps, head.hair);
            if (good && sum < fewest && by.stream().allMatch(thumb -> thumb.sure(padded, post))) {
                fewest = sum;
                best = more;
            }
        }
        return best;
    }

    public int pads(int t, int h, int p, int r) {
        return call(() -> {
            badThumb(t);
            badHead(h);
            badPost(p);
            badRow(r);
            int[] best = fewest(List.of(thumbs.get(t)), heads().get(h), posts.get(p));
            if (best == null) {
                return -9;
            }
            rows[r] = best;
            return best[0] + best[1] + best[2] + best[3];
        });
    }

    public int all(int h, int p) {
        return call(() -> {
            badHead(h);
            badPost(p);
            state(thumbs.isEmpty());
            int[] best = fewest(thumbs, heads().get(h), posts.get(p));
            return best == null ? -9 : best[0] + best[1] + best[2] + best[3];
        });
    }

    public int finds(int t, int h, int place) {
        return call(() -> {
            badThumb(t);
            badHead(h);
            badPlace(place);
            state(ofHead(h, place) == 5);
            Head head = heads().get(h);
            for (int other = 0; other < thumbs.size(); other++) {
                boolean common = other == t;
                for (int number = 0; number < 20; number++) {
                    common |= thumbs.get(other).mayRead(head, place, number)
                        && thumbs.get(other).mayRead(head.padded(place), place, number);
                }
                if (!common) {
                    return other;
                }
            }
            return -9;
        });
    }

    public int posts(int t, int h) {
        return call(() -> {
            badThumb(t);
            badHead(h);
            int sure = 0;
            int lucky = 0;
            for (int p = 0; p < posts.size(); p++) {
                sure += thumbs.get(t).sure(heads().get(h), posts.get(p)) ? 1 << p : 0;
                lucky += thumbs.get(t).lucky(heads().get(h), posts.get(p)) ? 1 << p : 0;
            }
            return ask(sure, lucky);
        });
    }

    /** All PLANS in their order: the POSTS of HEADS as figures of a number, NONE as the greatest figure. */
    private List<int[]> allPlans(List<Thumb> by, List<Head> of) {
        List<int[]> all = new ArrayList<>();
        int figures = posts.size() + 1;
        int many = 1;
        for (int h = 0; h < of.size(); h++) {
            many *= figures;
        }
        for (int n = 0; n < many; n++) {
            int[] plan = new int[of.size()];
            int rest = n;
            boolean good = true;
            int taken = 0;
            for (int h = of.size() - 1; h >= 0; h--) {
                int p = rest % figures;
                rest /= figures;
                plan[h] = p == posts.size() ? -9 : p;
                if (plan[h] >= 0) {
                    Head head = of.get(h);
                    good &= (taken >> p & 1) == 0 && by.stream().allMatch(thumb -> thumb.sure(head, posts.get(p)));
                    taken |= 1 << p;
                }
            }
            if (good) {
                all.add(plan);
            }
        }
        return all;
    }

    private int pay(int[] plan) {
        int sum = 0;
        for (int p : plan) {
            sum += p < 0 ? 0 : posts.get(p)[4];
        }
        return sum;
    }

    private int[] bestPlan(List<Thumb> by, List<Head> of) {
        int[] best = null;
        for (int[] plan : allPlans(by, of)) {
            best = best == null || pay(plan) > pay(best) ? plan : best;
        }
        return best;
    }

    public int plan(int t, int r) {
        return call(() -> {
            badThumb(t);
            badRow(r);
            state(heads().isEmpty());
            rows[r] = bestPlan(List.of(thumbs.get(t)), heads());
            return pay(rows[r]);
        });
    }

    public int plans(int t) {
        return call(() -> {
            badThumb(t);
            return fraction(allPlans(List.of(thumbs.get(t)), heads()).size(), 1);
        });
    }

    public int safest(int r) {
        return call(() -> {
            badRow(r);
            state(heads().isEmpty());
            rows[r] = bestPlan(thumbs, heads());
            return pay(rows[r]);
        });
    }

    public int gain(int t, int h) {
        return call(() -> {
            badThumb(t);
            badHead(h);
            List<Thumb> by = List.of(thumbs.get(t));
            int without = pay(bestPlan(by, heads()));
            int most = 0;
            int best = -1;
            for (int place = 0; place < 4; place++) {
                List<Head> padded = new ArrayList<>(heads());
                padded.set(h, heads().get(h).padded(place));
                int more = pay(bestPlan(by, padded)) - without;
                if (more > most) {
                    most = more;
                    best = place;
                }
            }
            return best < 0 ? -9 : ask(most, best);
        });
    }

    public int learn(int r, int error) {
        return call(() -> {
            badRow(r);
            bad(out(error, 3));
            finding(rows[r] == null, 1);
            finding(rows[r].length % 3 != 0, 5);
            for (int i = 0; i < rows[r].length; i += 3) {
                finding(out(rows[r][i], heads().size()) || out(rows[r][i + 1], 4) || out(rows[r][i + 2], 10), 3);
            }
            int kinds = 0;
            int wishes = 0;
            for (char letter : "tvlwcd".toCharArray()) {
                for (int wish = 0; wish < 4; wish++) {
                    Thumb thumb = new Thumb(letter, error, wish);
                    boolean good = true;
                    for (int i = 0; i < rows[r].length; i += 3) {
                        good &= thumb.mayRead(heads().get(rows[r][i]), rows[r][i + 1], rows[r][i + 2]);
                    }
                    kinds |= good ? 1 << thumb.kind() : 0;
                    wishes |= good ? 1 << wish : 0;
                }
            }
            return ask(kinds, wishes);
        });
    }

    public int tells(int r) {
        return call(() -> {
            badRow(r);
            finding(rows[r] == null, 1);
            finding(rows[r].length != heads().size(), 5);
            for (int did : rows[r]) {
                finding(out(did, 2), 3);
            }
            int places = 0;
            for (int place = 0; place < 4; place++) {
                int worst = 9;
                int best = -9;
                for (int h = 0; h < rows[r].length; h++) {
                    if (rows[r][h] == 1) {
                        worst = Math.min(worst, ofHead(h, place));
                    } else {
                        best = Math.max(best, ofHead(h, place));
                    }
                }
                places += worst > best ? 1 << place : 0;
            }
            int pairs = 0;
            for (int h = 0; h < rows[r].length; h++) {
                for (int other = 0; other < rows[r].length; other++) {
                    pairs += rows[r][h] > rows[r][other] && ofHead(h, 5) > ofHead(other, 5) ? 1 : 0;
                }
            }
            return ask(places, pairs);
        });
    }

    public int lots(int t, int n, int seed) {
        return call(() -> {
            badThumb(t);
            bad(n < 1 || n > 5);
            bad(seed < 1 || seed > 2147483646);
            state(heads().isEmpty());
            Thumb thumb = thumbs.get(t);
            long lot = seed;
            int alone = 0;
            for (int i = 0; i < n; i++) {
                lot = Math.floorMod(48271L * lot, 2147483647L);
                int h = (int) (lot % heads().size());
                int[] reading = new int[4];
                for (int place = 0; place < 4; place++) {
                    lot = Math.floorMod(48271L * lot, 2147483647L);
                    List<Integer> numbers = new ArrayList<>();
                    for (int number = 0; number < 20; number++) {
                        if (thumb.mayRead(heads().get(h), place, number)) {
                            numbers.add(number);
                        }
                    }
                    reading[place] = numbers.get((int) (lot % numbers.size()));
                }
                alone += Integer.bitCount(whoseBy(thumb, reading)) == 1 ? 1 : 0;
            }
            return alone;
        });
    }

    public int asked() {
        return asked;
    }

    public long upper() {
        return upper;
    }

    public long lower() {
        return lower;
    }

    private static int present(Object[] places) {
        int sum = 0;
        for (Object place : places) {
            sum += place == null ? 0 : 1;
        }
        return sum;
    }

    public int count(int what) {
        return switch (what) {
            case 0 -> heads().size();
            case 1 -> thumbs.size();
            case 2 -> posts.size();
            case 3 -> deeds();
            case 4 -> heads().stream().mapToInt(Head::together).sum();
            case 5 -> (int) thumbs.stream().filter(thumb -> "wc".indexOf(thumb.letter) >= 0).count();
            case 6 -> present(rows);
            case 7 -> present(texts);
            case 8 -> present(kept);
            default -> -1;
        };
    }

    public int finding() {
        return finding;
    }

    public int findings(int f) {
        return f < 1 || f > 5 ? -1 : findings[f];
    }

    public long digest() {
        List<Integer> all = new ArrayList<>();
        for (int what = 0; what <= 8; what++) {
            all.add(count(what));
        }
        for (int h = 0; h < heads().size(); h++) {
            for (int what = 0; what <= 5; what++) {
                all.add(ofHead(h, what));
            }
        }
        for (int t = 0; t < thumbs.size(); t++) {
            for (int what = 0; what <= 2; what++) {
                all.add(ofThumb(t, what));
            }
        }
        for (int[] post : posts) {
            for (int v : post) {
                all.add(v);
            }
        }
        for (Saved saved : kept) {
            all.add(saved == null ? -1 : saved.history.size() - 1);
        }
        for (int[] row : rows) {
            all.add(row == null ? -1 : row.length);
            for (int v : row == null ? new int[0] : row) {
                all.add(v);
            }
        }
        for (byte[] text : texts) {
            all.add(text == null ? -1 : text.length);
            for (int v : text == null ? new byte[0] : text) {
                all.add(v);
            }
        }
        long h = 17;
        for (int v : all) {
            h = 31 * h + v;
        }
        return h;
    }
}
