/** What the tests share: answers compared with those that are due, and offices and rows made in one line. */
class Check {
    static final int BAD = ThumbReader.BAD, FULL = ThumbReader.FULL, FINDING = ThumbReader.FINDING;
    static final int STATE = ThumbReader.STATE, NONE = ThumbReader.NONE;
    static final int NOTHING = 1, BEYOND = 2, UNLIKE = 3, NOUGHT = 4, SIZE = 5;

    private static int wrong = 0;
    private static int asked = 0;
    private static String test = "";

    Check() {
    }

    /** What stands ahead of each wrong answer from now on. */
    static void now(String which) {
        test = which;
    }

    static void due(String what, long got, long want) {
        asked++;
        if (got != want) {
            wrong++;
            System.out.println(test + what + " answered " + got + ", due is " + want);
        }
    }

    /** A FINDING was answered, it is this one, it was counted once, and nothing else is changed by now. */
    static void finding(String what, ThumbReader x, java.util.function.IntSupplier call, int which) {
        long digest = x.digest();
        int told = x.asked();
        long upper = x.upper();
        long lower = x.lower();
        int[] times = new int[6];
        for (int f = 1; f <= 5; f++) {
            times[f] = x.findings(f);
        }
        due(what, call.getAsInt(), FINDING);
        due(what + ": finding()", x.finding(), which);
        for (int f = 1; f <= 5; f++) {
            due(what + ": findings(" + f + ")", x.findings(f), times[f] + (f == which ? 1 : 0));
        }
        due(what + ": digest()", x.digest(), digest);
        due(what + ": asked()", x.asked(), told);
        due(what + ": upper()", x.upper(), upper);
        due(what + ": lower()", x.lower(), lower);
    }

    /** Refused (or NONE) without a FINDING: nothing is changed, finding() neither. */
    static void unchanged(String what, ThumbReader x, java.util.function.IntSupplier call, int want) {
        long digest = x.digest();
        int told = x.asked();
        long upper = x.upper();
        long lower = x.lower();
        int latest = x.finding();
        due(what, call.getAsInt(), want);
        due(what + ": digest()", x.digest(), digest);
        due(what + ": asked()", x.asked(), told);
        due(what + ": upper()", x.upper(), upper);
        due(what + ": lower()", x.lower(), lower);
        due(what + ": finding()", x.finding(), latest);
    }

    static void told(String what, ThumbReader x, int answer, int want) {
        due(what, answer, 1);
        due(what + ": asked()", x.asked(), want);
    }

    static void both(String what, ThumbReader x, int answer, int want, int asked) {
        due(what, answer, want);
        due(what + ": asked()", x.asked(), asked);
    }

    static void fraction(String what, ThumbReader x, int answer, long upper, long lower) {
        due(what, answer, 1);
        due(what + ": upper()", x.upper(), upper);
        due(what + ": lower()", x.lower(), lower);
    }

    static void write(ThumbReader x, int t, String signs) {
        due("text(" + t + ", " + signs.length() + ")", x.text(t, signs.length()), signs.length());
        for (int i = 0; i < signs.length(); i++) {
            due("put(" + t + ", " + i + ", " + signs.charAt(i) + ")", x.put(t, i, signs.charAt(i)), 1032);
        }
    }

    static ThumbReader office(String signs) {
        ThumbReader x = new ThumbReader();
        write(x, 0, signs);
        due("fault of " + signs, x.fault(0), NONE);
        int heads = 0;
        for (int i = 0; i < signs.length(); i++) {
            heads += signs.charAt(i) == 'h' ? 1 : 0;
        }
        due("office of " + signs, x.office(0), heads);
        return x;
    }

    static void fill(ThumbReader x, int r, int... places) {
        due("row(" + r + ", " + places.length + ")", x.row(r, places.length), places.length);
        for (int i = 0; i < places.length; i++) {
            due("lay(" + r + ", " + i + ", " + places[i] + ")", x.lay(r, i, places[i]), 1);
        }
    }

    static void rowIs(String what, ThumbReader x, int r, int... places) {
        for (int i = 0; i < places.length; i++) {
            told(what + ": at(" + r + ", " + i + ")", x, x.at(r, i), places[i]);
        }
        due(what + ": no further place", x.at(r, places.length), FINDING);
        due(what + ": no further place", x.finding(), BEYOND);
    }

    static void end() {
        System.out.println(asked + " answers, " + wrong + " not as due");
        if (wrong != 0 || asked == 0) {
            System.exit(1);
        }
    }
}
