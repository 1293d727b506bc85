/** Promises 43 to 49: what was asked, fractions, counts, findings, digests; and the constants. */
public final class ToldTest {
    public static void main(String[] args) {
        constants();
        atFirst();
        asked();
        notAsked();
        fractions();
        count();
        findings();
        digestOfNew();
        digestOfAll();
        Check.end();
    }

    private static void constants() {
        Check.due("BAD", ThumbReader.BAD, -1);
        Check.due("FULL", ThumbReader.FULL, -2);
        Check.due("FINDING", ThumbReader.FINDING, -3);
        Check.due("STATE", ThumbReader.STATE, -4);
        Check.due("SPENT", ThumbReader.SPENT, -6);
        Check.due("NONE", ThumbReader.NONE, -9);
    }

    private static void atFirst() {
        ThumbReader x = new ThumbReader();
        Check.due("asked()", x.asked(), 0);
        Check.due("upper()", x.upper(), 0);
        Check.due("lower()", x.lower(), 1);
        Check.due("finding()", x.finding(), 0);
        for (int f = 1; f <= 5; f++) {
            Check.due("findings(" + f + ")", x.findings(f), 0);
        }
    }

    private static void asked() {
        ThumbReader x = Check.office("h12343 h22220 t13 p23327");
        Check.fill(x, 0, 4, 5);
        Check.due("lay", x.asked(), 0);
        Check.told("at", x, x.at(0, 1), 5);
        Check.told("mean", x, x.mean(0), 4);
        Check.told("head", x, x.head(0, 5), 10);
        Check.told("thumb", x, x.thumb(0, 2), 3);
        Check.told("post", x, x.post(0, 4), 7);
        Check.both("reads", x, x.reads(0, 1, 0), 1, 3);
        Check.fill(x, 1, 1, 2, 2, 3);
        Check.both("whose", x, x.whose(0, 1), 3, 3);
        Check.both("look", x, x.look(0), 0, 0);
        Check.both("posts", x, x.posts(0, 1), 0, 1);
        x.error(0, 0);
        Check.fill(x, 2, 0, 0, 0);
        Check.both("learn", x, x.learn(2, 0), 0b101011, 0b1111);
        Check.fill(x, 3, 1, 0);
        Check.both("tells", x, x.tells(3), 0b1100, 1);
        ThumbReader y = Check.office("h30000 t00 p40007");
        Check.both("gain", y, y.gain(0, 0), 7, 0);
    }

    private static void notAsked() {
        ThumbReader x = Check.office("h12342 h22220 t13 l00 p11117");
        x.thumb(0, 2);
        Check.fill(x, 0, 1, 2, 2, 3);
        x.thumb(0, 2);
        x.row(1, 2);
        x.copy(0, 0, 1, 0, 1);
        x.tear(1);
        x.text(1, 3);
        x.put(1, 0, 5);
        x.fault(0);
        x.error(0, 1);
        x.pad(0, 0);
        x.grow(0);
        x.cut(0, 0);
        x.keep(0);
        x.undo(0);
        x.on(0);
        x.mark(1, 2);
        x.fits(0, 0, 0);
        x.who(0, 0);
        x.odds(0, 1, 0);
        x.alike(0, 0);
        x.suits(0, 0, 0);
        x.luck(0, 0, 0);
        x.pads(0, 0, 0, 2);
        x.all(0, 0);
        x.finds(0, 0, 0);
        x.plan(0, 2);
        x.plans(0);
        x.safest(3);
        x.lots(0, 1, 1);
        x.gain(0, 0);
        for (int what = 0; what <= 8; what++) {
            x.count(what);
        }
        x.digest();
        x.office(0);
        Check.due("none of these is asked", x.asked(), 3);
    }

    private static void fractions() {
        ThumbReader x = Check.office("h00000 h11110 t10 p10001");
        Check.fraction("luck", x, x.luck(0, 0, 0), 1, 2);
        Check.fraction("plans", x, x.plans(0), 1, 1);
        Check.fill(x, 0, 1, 1, 1, 1);
        Check.fraction("odds", x, x.odds(0, 0, 0), 81, 97);
        Check.unchanged("refused odds", x, () -> x.odds(0, 2, 0), Check.BAD);
        Check.unchanged("refused luck", x, () -> x.luck(0, 2, 0), Check.BAD);
        Check.unchanged("refused plans", x, () -> x.plans(1), Check.BAD);
        Check.due("upper() stays", x.upper(), 81);
        Check.due("lower() stays", x.lower(), 97);
    }

    private static void count() {
        ThumbReader x = Check.office("h12343 h22220 h00000 t13 w00 c00 d00 p23327 p11111");
        x.row(0, 0);
        x.row(5, 7);
        x.row(5, 8);
        x.text(3, 0);
        x.pad(0, 0);
        x.grow(2);
        x.keep(1);
        x.keep(1);
        x.keep(2);
        int[] want = {3, 4, 2, 2, 23, 2, 2, 2, 2};
        for (int what = 0; what <= 8; what++) {
            Check.due("count(" + what + ")", x.count(what), want[what]);
        }
        Check.unchanged("count(9)", x, () -> x.count(9), Check.BAD);
        Check.unchanged("count(-1)", x, () -> x.count(-1), Check.BAD);
        x.tear(0);
        Check.due("count(6) behind tear()", x.count(6), 1);
    }

    private static void findings() {
        ThumbReader x = Check.office("h12343 t13");
        x.at(0, 0);
        x.at(1, 0);
        Check.due("finding() NOTHING", x.finding(), 1);
        x.row(0, -3);
        Check.due("finding() SIZE", x.finding(), 5);
        x.row(0, 0);
        x.at(0, 0);
        Check.due("finding() BEYOND", x.finding(), 2);
        x.mean(0);
        Check.due("finding() NOUGHT", x.finding(), 4);
        x.mark(0, 1);
        x.mark(0, 1);
        x.mark(0, 1);
        Check.due("finding() UNLIKE", x.finding(), 3);
        int[] want = {2, 1, 3, 1, 1};
        for (int f = 1; f <= 5; f++) {
            Check.due("findings(" + f + ")", x.findings(f), want[f - 1]);
        }
        Check.unchanged("findings(0)", x, () -> x.findings(0), Check.BAD);
        Check.unchanged("findings(6)", x, () -> x.findings(6), Check.BAD);
        Check.unchanged("findings(-1)", x, () -> x.findings(-1), Check.BAD);
        x.office(0);
        Check.due("they stay with another OFFICE", x.findings(3), 3);
    }

    private static long mixed(long... numbers) {
        long h = 17;
        for (long v : numbers) {
            h = 31 * h + v;
        }
        return h;
    }

    private static void digestOfNew() {
        Check.due("of a new one", new ThumbReader().digest(),
            mixed(0, 0, 0, 0, 0, 0, 0, 0, 0, -1, -1, -1, -1, -1, -1, -1, -1, -1, -1, -1, -1, -1));
    }

    private static void digestOfAll() {
        ThumbReader x = Check.office("h12343 h00000 c23 p65437");
        x.pad(0, 0);
        x.keep(1);
        x.cut(0, 1);
        x.error(0, 1);
        Check.fill(x, 2, -7, 8);
        x.row(5, 0);
        x.text(0, 2);
        x.put(0, 1, 200);
        x.text(3, 0);
        Check.due("of all", x.digest(), mixed(
            2, 1, 1, 2, 11, 1, 2, 2, 1,
            2, 2, 3, 4, 1, 11, 0, 0, 0, 0, 0, 0,
            4, 1, 3,
            6, 5, 4, 3, 7,
            -1, 1, -1,
            -1, -1, 2, -7, 8, -1, -1, 0,
            2, 32, -56, -1, -1, 0));
    }
}
