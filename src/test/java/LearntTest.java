/** Promises 40 to 42: wishes learnt, whether bumps tell anything, lots. */
public final class LearntTest {
    public static void main(String[] args) {
        learn();
        learnRefused();
        tells();
        tellsRefused();
        lots();
        lotsRefused();
        Check.end();
    }

    private static void learn() {
        ThumbReader x = Check.office("h00351 h44442");
        Check.fill(x, 0, 0, 2, 3);
        Check.both("3 of a BUMP 3, no ERROR: a THUMB, or a WISHING one elsewhere", x, x.learn(0, 0), 0b001001, 0b1111);
        Check.fill(x, 0, 0, 2, 4);
        Check.both("4 of a BUMP 3: a LIGHT one, a WISHING one there, a CLERK elsewhere", x, x.learn(0, 0), 0b011100, 0b1111);
        Check.fill(x, 0, 0, 2, 5);
        Check.both("5 of a BUMP 3: a CLERK that wishes it", x, x.learn(0, 0), 0b010000, 0b0100);
        Check.fill(x, 0, 0, 2, 5, 0, 0, 2);
        Check.both("no CLERK wishes two", x, x.learn(0, 0), 0, 0);
        Check.fill(x, 0, 0, 3, 3);
        Check.both("3 of a BUMP 5: a DULL one", x, x.learn(0, 0), 0b100000, 0b1111);
        Check.fill(x, 0, 1, 0, 2);
        Check.both("2 of a BUMP 4 under HAIR: a HEAVY one, a DULL one", x, x.learn(0, 0), 0b100010, 0b1111);
        Check.fill(x, 0, 0, 0, 0, 0, 1, 1, 0, 2, 3);
        Check.both("a WISHING one at PLACE 1", x, x.learn(0, 0), 0b001000, 0b0010);
        Check.both("with ERROR 1 all but a CLERK that wishes 0", x, x.learn(0, 1), 0b111111, 0b1111);
        Check.fill(x, 0, 1, 0, 9);
        Check.both("9 of a BUMP 4", x, x.learn(0, 2), 0, 0);
        x.row(0, 0);
        Check.both("none learnt", x, x.learn(0, 0), 0b111111, 0b1111);
        ThumbReader none = new ThumbReader();
        none.row(0, 0);
        Check.both("none learnt without HEADS", none, none.learn(0, 2), 0b111111, 0b1111);
        ThumbReader full = Check.office("h00000");
        full.row(0, 39);
        Check.both("thirteen of 0", full, full.learn(0, 0), 0b101011, 0b1111);
    }

    private static void learnRefused() {
        ThumbReader x = Check.office("h00351 h44442");
        Check.finding("no ROW", x, () -> x.learn(0, 0), Check.NOTHING);
        Check.unchanged("learn(6, 0)", x, () -> x.learn(6, 0), Check.BAD);
        Check.unchanged("learn(-1, 0)", x, () -> x.learn(-1, 0), Check.BAD);
        Check.unchanged("learn(0, 3): BAD first", x, () -> x.learn(0, 3), Check.BAD);
        Check.unchanged("learn(0, -1)", x, () -> x.learn(0, -1), Check.BAD);
        Check.fill(x, 0, 9, 9, 99, 1);
        Check.finding("four: SIZE first", x, () -> x.learn(0, 0), Check.SIZE);
        Check.fill(x, 0, 0, 0);
        Check.finding("two", x, () -> x.learn(0, 0), Check.SIZE);
        int[][] unlike = {{2, 0, 0}, {-1, 0, 0}, {0, 4, 0}, {0, -1, 0}, {0, 0, 10}, {0, 0, -1}};
        for (int[] u : unlike) {
            Check.fill(x, 0, 0, 0, 0, u[0], u[1], u[2]);
            Check.finding("UNLIKE " + u[0] + ", " + u[1] + ", " + u[2], x, () -> x.learn(0, 0), Check.UNLIKE);
        }
    }

    private static void tells() {
        ThumbReader x = Check.office("h53240 h43250 h21153 h30500");
        // Together: 14, 14, 9, 8.
        Check.fill(x, 0, 1, 1, 0, 0);
        Check.both("places 0 and 1; all four pairs", x, x.tells(0), 0b0011, 4);
        Check.fill(x, 0, 1, 0, 0, 0);
        Check.both("place 0; one pair is alike", x, x.tells(0), 0b0001, 2);
        Check.fill(x, 0, 0, 0, 1, 0);
        Check.both("no place is above all; one pair", x, x.tells(0), 0, 1);
        Check.fill(x, 0, 0, 0, 0, 1);
        Check.both("place 2, though the least together", x, x.tells(0), 0b0100, 0);
        Check.fill(x, 0, 1, 1, 1, 1);
        Check.both("all did well", x, x.tells(0), 0b1111, 0);
        Check.fill(x, 0, 0, 0, 0, 0);
        Check.both("none did well", x, x.tells(0), 0b1111, 0);
        ThumbReader none = new ThumbReader();
        none.row(0, 0);
        Check.both("without HEADS", none, none.tells(0), 0b1111, 0);
        ThumbReader hair = Check.office("h33333 h33330");
        Check.fill(hair, 0, 0, 1);
        Check.both("HAIR hides no BUMP here", hair, hair.tells(0), 0, 0);
        Check.fill(hair, 0, 1, 0);
        Check.both("HAIR is no BUMP", hair, hair.tells(0), 0, 0);
    }

    private static void tellsRefused() {
        ThumbReader x = Check.office("h53240 h43250");
        Check.finding("no ROW", x, () -> x.tells(0), Check.NOTHING);
        Check.unchanged("tells(6)", x, () -> x.tells(6), Check.BAD);
        Check.unchanged("tells(-1)", x, () -> x.tells(-1), Check.BAD);
        Check.fill(x, 0, 1, 0, 2);
        Check.finding("three: SIZE first", x, () -> x.tells(0), Check.SIZE);
        Check.fill(x, 0, 1);
        Check.finding("one", x, () -> x.tells(0), Check.SIZE);
        Check.fill(x, 0, 1, 2);
        Check.finding("a 2", x, () -> x.tells(0), Check.UNLIKE);
        Check.fill(x, 0, -1, 1);
        Check.finding("a -1", x, () -> x.tells(0), Check.UNLIKE);
    }

    private static void lots() {
        ThumbReader apart = Check.office("h00000 h55550 t20");
        for (int n = 1; n <= 5; n++) {
            Check.due("always alone", apart.lots(0, n, 2147483646), n);
        }
        ThumbReader one = Check.office("h33330 t20");
        Check.due("one HEAD is always alone", one.lots(0, 5, 1), 5);
        ThumbReader twins = Check.office("h33330 h33330 t00");
        Check.due("never alone", twins.lots(0, 5, 1), 0);
        ThumbReader x = Check.office("h00000 h11110 t10");
        for (int seed = 1; seed <= 60; seed++) {
            for (int n = 1; n <= 5; n++) {
                Check.due("lots(0, " + n + ", " + seed + ")", x.lots(0, n, seed), lotsAlone(n, seed));
            }
        }
        Check.due("nothing is told", x.asked(), 0);
    }

    /** Of HEADS 0000 and 1111 with ERROR 1: alone is the second one if a 2 was READ, the first one never. */
    private static int lotsAlone(int n, int seed) {
        java.math.BigInteger lot = java.math.BigInteger.valueOf(seed);
        java.math.BigInteger factor = java.math.BigInteger.valueOf(48271);
        java.math.BigInteger modulus = java.math.BigInteger.valueOf(2147483647);
        int alone = 0;
        for (int i = 0; i < n; i++) {
            lot = lot.multiply(factor).mod(modulus);
            int h = lot.intValue() % 2;
            boolean two = false;
            for (int place = 0; place < 4; place++) {
                lot = lot.multiply(factor).mod(modulus);
                two |= lot.intValue() % (h == 0 ? 2 : 3) == 2;
            }
            alone += two ? 1 : 0;
        }
        return alone;
    }

    private static void lotsRefused() {
        ThumbReader x = Check.office("h53240 t00");
        int[][] bad = {{-1, 1, 1}, {1, 1, 1}, {0, 0, 1}, {0, 6, 1}, {0, -1, 1}, {0, 1, 0}, {0, 1, -5}, {0, 1, 2147483647}};
        for (int[] b : bad) {
            Check.unchanged("lots " + b[0] + ", " + b[1] + ", " + b[2], x, () -> x.lots(b[0], b[1], b[2]), Check.BAD);
        }
        ThumbReader none = new ThumbReader();
        Check.unchanged("lots without THUMBS", none, () -> none.lots(0, 1, 1), Check.BAD);
    }
}
