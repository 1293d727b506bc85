/** Promises 43 to 49: what was asked, fractions, counts, findings, digests. */
final class EdgesOfTold extends Edge {
    private static final String LATEST = "What the latest lay(), at(), mean(), head(), thumb(), post(), reads(), whose(), "
        + "look(), posts(), gain(), learn(), tells() that was not refused (nor NONE) told";

    /** asked() is 77, then the call, then asked() is this. */
    private static void then(String what, Call call, int want) {
        ThumbReader x = office("h30010 h10020 t10 l03 p40007");
        fill(x, 0, 2, 0, 0, 1);
        fill(x, 1, 0, 1);
        fill(x, 2, 0, 0, 5);
        x.row(3, 0);
        x.row(4, 1);
        x.lay(4, 0, 77);
        told("ahead", x, x.at(4, 0), 77);
        call.on(x);
        due(what, x.asked(), want);
        due(what + ", asked once more", x.asked(), want);
    }

    @Holds(in = "Promise 43", says = LATEST)
    static void toldByEach() {
        then("lay", x -> x.lay(0, 0, 5), 2);
        then("at", x -> x.at(2, 2), 5);
        then("mean", x -> x.mean(2), 1);
        then("head", x -> x.head(1, 5), 3);
        then("thumb", x -> x.thumb(1, 2), 3);
        then("post", x -> x.post(0, 4), 7);
        then("reads", x -> x.reads(0, 0, 0), 4);
        then("whose: both by the first THUMB", x -> x.whose(1, 0), 3);
        then("look: 2 .. 4 and 0 .. 2 have 2 in common", x -> x.look(0), 0);
        then("look by the LIGHT one: 4 and 2", x -> x.look(1), 1);
        then("posts: by luck", x -> x.posts(0, 0), 1);
        then("gain by the LIGHT one: it has it already", x -> x.gain(1, 0), 77);
        then("gain by the LIGHT one, which errs: at PLACE 0", x -> x.error(1, 1) + x.gain(1, 0), 0);
        then("learn: 5 of a BUMP 3 is a CLERK's, who wishes PLACE 0", x -> x.learn(2, 0), 1);
        then("tells: 3 of the one who did well, 4 of the other", x -> x.tells(1), 0);
    }

    @Holds(in = "Promise 43", says = "that was not refused (nor NONE)")
    static void notByRefusedOnes() {
        then("lay BAD", x -> x.lay(6, 0, 5), 77);
        then("lay NOTHING", x -> x.lay(5, 0, 5), 77);
        then("at BEYOND", x -> x.at(2, 3), 77);
        then("mean NOUGHT", x -> x.mean(3), 77);
        then("head BAD", x -> x.head(1, 6), 77);
        then("thumb BAD", x -> x.thumb(2, 2), 77);
        then("post BAD", x -> x.post(1, 4), 77);
        then("reads BAD", x -> x.reads(0, 0, 4), 77);
        then("whose SIZE", x -> x.whose(1, 2), 77);
        then("look BAD", x -> x.look(2), 77);
        then("posts BAD", x -> x.posts(0, 2), 77);
        then("gain BAD", x -> x.gain(0, 2), 77);
        then("learn SIZE", x -> x.learn(1, 0), 77);
        then("tells SIZE", x -> x.tells(2), 77);
    }

    @Holds(in = "Promise 43", says = "(nor NONE)")
    static void notByNone() {
        then("gain NONE", x -> x.gain(0, 1), 77);
    }

    @Holds(in = "Promise 43", says = LATEST)
    static void notByOthers() {
        then("row", x -> x.row(5, 3), 77);
        then("tear", x -> x.tear(4), 77);
        then("copy", x -> x.copy(0, 0, 2, 0, 1), 77);
        then("text", x -> x.text(0, 3), 77);
        then("put", x -> x.put(0, 0, 3), 77);
        then("fault", x -> x.fault(0), 77);
        then("office", x -> x.office(0), 77);
        then("mark", x -> x.mark(1, 2), 77);
        then("error", x -> x.error(0, 2), 77);
        then("pad", x -> x.pad(0, 0), 77);
        then("grow", x -> x.grow(0), 77);
        then("undo", x -> x.undo(0), 77);
        then("keep, on", x -> x.keep(0) + x.on(0), 77);
        then("cut", x -> x.cut(0, 0), 77);
        then("fits", x -> x.fits(0, 0, 0), 77);
        then("who", x -> x.who(0, 0), 77);
        then("odds", x -> x.odds(0, 0, 0), 77);
        then("alike", x -> x.alike(0, 0), 77);
        then("suits", x -> x.suits(0, 0, 0), 77);
        then("luck", x -> x.luck(0, 0, 0), 77);
        then("pads", x -> x.pads(0, 0, 0, 0), 77);
        then("all", x -> x.all(0, 0), 77);
        then("finds", x -> x.finds(0, 0, 0), 77);
        then("plan", x -> x.plan(0, 0), 77);
        then("plans", x -> x.plans(0), 77);
        then("safest", x -> x.safest(0), 77);
        then("lots", x -> x.lots(0, 5, 7), 77);
        then("count", x -> x.count(4), 77);
        then("finding", ThumbReader::finding, 77);
        then("findings", x -> x.findings(1), 77);
        then("digest", x -> (int) x.digest(), 77);
        then("upper, lower", x -> (int) (x.upper() + x.lower()), 77);
    }

    @Holds(in = "Promise 43", says = "0 before.")
    static void askedBefore() {
        due("asked()", new ThumbReader().asked(), 0);
        due("of an OFFICE", office("h33330 t00 p11111").asked(), 0);
        ThumbReader x = new ThumbReader();
        x.at(0, 0);
        due("behind one that was refused", x.asked(), 0);
    }

    @Holds(in = "Promise 44", says = "The upper number that was told last")
    static void upperToldLast() {
        ThumbReader x = office("h33330 h33330 t10 p33331");
        x.luck(0, 0, 0);
        due("luck", x.upper(), 16);
        fill(x, 0, 3, 3, 3, 3);
        x.odds(0, 0, 0);
        due("odds", x.upper(), 1);
        x.error(0, 0);
        x.plans(0);
        due("plans", x.upper(), 3);
        due("refused odds", x.odds(0, 2, 0), BAD);
        due("it stays", x.upper(), 3);
        fill(x, 0, 9, 9, 9, 9);
        due("NOUGHT", x.odds(0, 0, 0), FINDING);
        due("it stays", x.upper(), 3);
        due("refused luck", x.luck(0, 0, 1), BAD);
        due("it stays", x.upper(), 3);
        due("refused plans", x.plans(1), BAD);
        due("it stays", x.upper(), 3);
        x.office(0);
        due("it stays with another OFFICE", x.upper(), 3);
    }

    @Holds(in = "Promise 44", says = "0 before.")
    static void upperBefore() {
        due("upper()", new ThumbReader().upper(), 0);
        due("of an OFFICE", office("h33330 t00 p11111").upper(), 0);
        ThumbReader x = new ThumbReader();
        x.luck(0, 0, 0);
        due("behind one that was refused", x.upper(), 0);
    }

    @Holds(in = "Promise 45", says = "Its lower number")
    static void lowerToldLast() {
        ThumbReader x = office("h33330 h33330 t10 p33331");
        x.luck(0, 0, 0);
        due("luck", x.lower(), 81);
        fill(x, 0, 3, 3, 3, 3);
        x.odds(0, 0, 0);
        due("odds", x.lower(), 2);
        due("refused luck", x.luck(1, 0, 0), BAD);
        due("it stays", x.lower(), 2);
        x.plans(0);
        due("plans", x.lower(), 1);
    }

    @Holds(in = "Promise 45", says = "1 before.")
    static void lowerBefore() {
        due("lower()", new ThumbReader().lower(), 1);
        due("of an OFFICE", office("h33330 t00 p11111").lower(), 1);
        ThumbReader x = new ThumbReader();
        x.luck(0, 0, 0);
        due("behind one that was refused", x.lower(), 1);
    }

    private static void counts(String what, ThumbReader x, int... want) {
        for (int i = 0; i < want.length; i++) {
            due(what + ": count(" + i + ")", x.count(i), want[i]);
        }
    }

    @Holds(in = "Promise 46", says = "0 HEADS, 1 THUMBS, 2 POSTS, 3 DEEDS, 4 all BUMPS together, 5 WISHING ones (CLERKS, too), "
        + "6 ROWS, 7 TEXTS that are there, 8 kept OFFICES.")
    static void countsFromNoneToAll() {
        counts("none", new ThumbReader(), 0, 0, 0, 0, 0, 0, 0, 0, 0);
        ThumbReader x = office("h55550h55550h55550h55550h55553 w00c00w00c00 p00001p00001p00001p00001");
        for (int d = 0; d < 40; d++) {
            x.grow(d % 5);
        }
        for (int i = 0; i < 6; i++) {
            x.row(i, 0);
            x.text(i, 0);
            x.keep(i);
        }
        counts("all", x, 5, 4, 4, 40, 100, 4, 6, 4, 3);
        counts("some", whole(), 5, 4, 4, 3, 12 + 12 + 11 + 13 + 5, 1, 5, 3, 1);
    }

    @Holds(in = "Promise 46", says = "4 all BUMPS together")
    static void countOfBumps() {
        due("HAIR is no BUMP and hides none", office("h00003 h11112").count(4), 4);
        due("none", office("h00000").count(4), 0);
    }

    @Holds(in = "Promise 46", says = "5 WISHING ones (CLERKS, too)")
    static void countOfWishingOnes() {
        due("none of these", office("h00000 t00v00l00d00").count(5), 0);
        due("a WISHING one", office("h00000 t00w00l00d00").count(5), 1);
        due("a CLERK", office("h00000 t00v00c00d00").count(5), 1);
        due("both", office("h00000 w00c00").count(5), 2);
    }

    @Holds(in = "Promise 46", says = "6 ROWS, 7 TEXTS that are there")
    static void countOfThoseThatAreThere() {
        ThumbReader x = whole();
        x.tear(3);
        due("an empty ROW is torn", x.count(6), 4);
        x.row(3, 0);
        due("an empty ROW is there", x.count(6), 5);
        x.text(3, 0);
        due("an empty TEXT is there", x.count(7), 4);
    }

    @Holds(in = "Promise 46", says = "BAD.")
    static void countBad() {
        bounds("count(what)", 0, 8, ThumbReader::count);
        bounds(ThumbReader::new, "count(what)", 0, 8, ThumbReader::count);
    }

    @Holds(in = "Promise 47", says = "The latest FINDING (0 before any).")
    static void latestFinding() {
        ThumbReader x = whole();
        x.row(0, -1);
        due("SIZE", x.finding(), 5);
        x.at(5, 0);
        due("NOTHING", x.finding(), 1);
        x.at(0, 4);
        due("BEYOND", x.finding(), 2);
        x.mark(0, 1);
        due("UNLIKE", x.finding(), 3);
        x.mean(3);
        due("NOUGHT", x.finding(), 4);
        x.at(0, 0);
        due("it stays behind what is not refused", x.finding(), 4);
        x.at(6, 0);
        due("it stays behind BAD", x.finding(), 4);
        x.pad(0, 2);
        due("it stays behind STATE", x.finding(), 4);
        x.fault(0);
        due("it stays behind NONE", x.finding(), 4);
        x.office(0);
        due("it stays with another OFFICE", x.finding(), 4);
    }

    @Holds(in = "Promise 47", says = "(0 before any)")
    static void noFindingBefore() {
        due("finding()", new ThumbReader().finding(), 0);
        ThumbReader x = full();
        x.grow(0);
        x.grow(2);
        x.pad(0, 0);
        x.fault(0);
        due("FULL, BAD, STATE, NONE are none", x.finding(), 0);
    }

    @Holds(in = "Promise 48", says = "How often a FINDING (1 .. 5) was answered.")
    static void howOften() {
        ThumbReader x = whole();
        due("one was answered ahead", x.findings(1), 1);
        int[] times = {3, 4, 0, 2, 1};
        for (int i = 0; i < times[0]; i++) {
            x.tear(5);
        }
        for (int i = 0; i < times[1]; i++) {
            x.put(1, 0, 0);
        }
        for (int i = 0; i < times[3]; i++) {
            x.mean(3);
        }
        x.text(0, -1);
        x.at(6, 0);
        x.pad(0, 2);
        for (int f = 1; f <= 5; f++) {
            due("findings(" + f + ")", x.findings(f), times[f - 1] + (f == 1 ? 1 : 0));
        }
        for (int f = 1; f <= 5; f++) {
            due("none at first: findings(" + f + ")", new ThumbReader().findings(f), 0);
        }
    }

    @Holds(in = "Promise 48", says = "BAD.")
    static void findingsBad() {
        bounds("findings(f)", 1, 5, ThumbReader::findings);
        bounds(ThumbReader::new, "findings(f)", 1, 5, ThumbReader::findings);
    }

    private static long mixed(int... numbers) {
        long h = 17;
        for (int v : numbers) {
            h = 31 * h + v;
        }
        return h;
    }

    @Holds(in = "Promise 49", says = "h = 17; then h = 31 h + v for each v: count() 0 to 8; of each HEAD head() 0 to 5; of each "
        + "THUMB thumb() 0 to 2; of each POST post() 0 to 4; of each kept OFFICE how many DEEDS (-1: missing); of each ROW "
        + "its size (-1: missing) and places, of each TEXT likewise.")
    static void digestOfSome() {
        ThumbReader x = office("h12343 c23 d01 p65437 p00001 p12346");
        x.pad(0, 0);
        x.keep(2);
        x.cut(0, 1);
        x.keep(0);
        x.error(0, 1);
        fill(x, 0, MIN, MAX);
        x.row(4, 1);
        x.text(0, 0);
        x.text(2, 3);
        x.put(2, 0, 127);
        x.put(2, 2, 128);
        due("of some", x.digest(), mixed(
            1, 2, 3, 2, 11, 1, 2, 2, 2,
            2, 2, 3, 4, 1, 11,
            4, 1, 3, 5, 0, 1,
            6, 5, 4, 3, 7, 0, 0, 0, 0, 1, 1, 2, 3, 4, 6,
            2, -1, 1,
            2, MIN, MAX, -1, -1, -1, 1, 0, -1,
            0, -1, 3, 127, 32, -128, -1));
    }

    @Holds(in = "Promise 49", says = "of each HEAD head() 0 to 5; of each THUMB thumb() 0 to 2; of each POST post() 0 to 4")
    static void digestOfMoreHeadsThanPosts() {
        ThumbReader x = office("h00003 h55550 h10000 l11 w23 p00001");
        x.text(0, 0);
        due("three, two, one", x.digest(), mixed(
            3, 2, 1, 0, 21, 1, 0, 1, 0,
            0, 0, 0, 0, 3, 0, 5, 5, 5, 5, 0, 20, 1, 0, 0, 0, 0, 1,
            2, 1, 1, 3, 2, 3,
            0, 0, 0, 0, 1,
            -1, -1, -1,
            -1, -1, -1, -1, -1, -1,
            0, -1, -1, -1));
    }

    @Holds(in = "Promise 49", says = "(-1: missing)")
    static void digestOfANewOne() {
        due("all are missing", new ThumbReader().digest(),
            mixed(0, 0, 0, 0, 0, 0, 0, 0, 0, -1, -1, -1, -1, -1, -1, -1, -1, -1, -1, -1, -1, -1));
        ThumbReader empty = new ThumbReader();
        for (int i = 0; i < 6; i++) {
            empty.row(i, 0);
            empty.text(i, 0);
        }
        due("all are empty", empty.digest(), mixed(0, 0, 0, 0, 0, 0, 6, 4, 0, -1, -1, -1, 0, 0, 0, 0, 0, 0, 0, 0, 0, 0));
        empty.tear(0);
        due("the first is torn", empty.digest(), mixed(0, 0, 0, 0, 0, 0, 5, 4, 0, -1, -1, -1, -1, 0, 0, 0, 0, 0, 0, 0, 0, 0));
    }

    @Holds(in = "Promise 49", says = "of each kept OFFICE how many DEEDS (-1: missing)")
    static void digestOfKeptOffices() {
        ThumbReader x = office("h00000");
        x.text(0, 0);
        x.keep(1);
        due("none of its DEEDS", x.digest(), mixed(1, 0, 0, 0, 0, 0, 0, 1, 1, 0, 0, 0, 0, 0, 0, -1, 0, -1,
            -1, -1, -1, -1, -1, -1, 0, -1, -1, -1));
        for (int d = 0; d < 40; d++) {
            x.grow(0);
        }
        x.keep(0);
        due("40 of its DEEDS", x.digest(), mixed(1, 0, 0, 40, 20, 0, 0, 1, 2, 5, 5, 5, 5, 0, 20, 40, 0, -1,
            -1, -1, -1, -1, -1, -1, 0, -1, -1, -1));
    }

    @Holds(in = "Promise 49", says = "its size (-1: missing) and places, of each TEXT likewise.")
    static void digestOfFullRowsAndTexts() {
        ThumbReader x = new ThumbReader();
        long h = mixed(0, 0, 0, 0, 0, 0, 6, 4, 0, -1, -1, -1);
        for (int r = 0; r < 6; r++) {
            x.row(r, 40);
            x.lay(r, 39, r - 3);
            h = 31 * h + 40;
            for (int i = 0; i < 40; i++) {
                h = 31 * h + (i == 39 ? r - 3 : 0);
            }
        }
        for (int t = 0; t < 4; t++) {
            x.text(t, 80);
            x.put(t, 79, -t);
            h = 31 * h + 80;
            for (int i = 0; i < 80; i++) {
                h = 31 * h + (i == 79 ? -t : 32);
            }
        }
        due("all are full", x.digest(), h);
        due("it changes nothing", x.digest(), h);
    }
}
