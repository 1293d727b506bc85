/** Promises 1 to 9: a new object, rows, texts. */
public final class RowsTest {
    public static void main(String[] args) {
        newObject();
        row();
        layAndAt();
        tear();
        copy();
        copyRefused();
        mean();
        text();
        put();
        Check.end();
    }

    private static void newObject() {
        ThumbReader x = new ThumbReader();
        for (int what = 0; what <= 8; what++) {
            Check.due("new: count(" + what + ")", x.count(what), 0);
        }
        for (int r = 0; r < 6; r++) {
            int which = r;
            Check.finding("new: at(" + r + ", 0)", x, () -> x.at(which, 0), Check.NOTHING);
        }
        for (int t = 0; t < 4; t++) {
            int which = t;
            Check.finding("new: fault(" + t + ")", x, () -> x.fault(which), Check.NOTHING);
        }
        Check.due("new: head(0, 0)", x.head(0, 0), Check.BAD);
        Check.due("new: thumb(0, 0)", x.thumb(0, 0), Check.BAD);
        Check.due("new: post(0, 0)", x.post(0, 0), Check.BAD);
    }

    private static void row() {
        ThumbReader x = new ThumbReader();
        Check.due("row(0, 0)", x.row(0, 0), 0);
        Check.due("row(5, 40)", x.row(5, 40), 40);
        Check.due("count(6)", x.count(6), 2);
        Check.told("at(5, 39)", x, x.at(5, 39), 0);
        Check.unchanged("row(5, 41)", x, () -> x.row(5, 41), Check.BAD);
        Check.unchanged("row(-1, 3)", x, () -> x.row(-1, 3), Check.BAD);
        Check.unchanged("row(6, 3)", x, () -> x.row(6, 3), Check.BAD);
        Check.unchanged("row(6, -1): BAD first", x, () -> x.row(6, -1), Check.BAD);
        Check.finding("row(0, -1)", x, () -> x.row(0, -1), Check.SIZE);
        Check.finding("row(0, least int)", x, () -> x.row(0, Integer.MIN_VALUE), Check.SIZE);
        Check.fill(x, 2, 7, 8, 9);
        Check.due("row(2, 5) again", x.row(2, 5), 5);
        Check.rowIs("row(2, 5) again", x, 2, 0, 0, 0, 0, 0);
        Check.due("row(2, 1) again", x.row(2, 1), 1);
        Check.rowIs("row(2, 1) again", x, 2, 0);
    }

    private static void layAndAt() {
        ThumbReader x = new ThumbReader();
        x.row(3, 2);
        Check.told("lay(3, 1, 12)", x, x.lay(3, 1, 12), 0);
        Check.told("lay(3, 1, least int)", x, x.lay(3, 1, Integer.MIN_VALUE), 12);
        Check.told("at(3, 1)", x, x.at(3, 1), Integer.MIN_VALUE);
        Check.told("at(3, 0)", x, x.at(3, 0), 0);
        Check.unchanged("lay(-1, 0, 1)", x, () -> x.lay(-1, 0, 1), Check.BAD);
        Check.unchanged("lay(6, 0, 1)", x, () -> x.lay(6, 0, 1), Check.BAD);
        Check.unchanged("at(6, 0)", x, () -> x.at(6, 0), Check.BAD);
        Check.unchanged("at(-1, 0)", x, () -> x.at(-1, 0), Check.BAD);
        Check.finding("lay(2, -1, 1): NOTHING first", x, () -> x.lay(2, -1, 1), Check.NOTHING);
        Check.finding("at(2, -1): NOTHING first", x, () -> x.at(2, -1), Check.NOTHING);
        Check.finding("lay(3, 2, 1)", x, () -> x.lay(3, 2, 1), Check.BEYOND);
        Check.finding("lay(3, -1, 1)", x, () -> x.lay(3, -1, 1), Check.BEYOND);
        Check.finding("at(3, 2)", x, () -> x.at(3, 2), Check.BEYOND);
        Check.finding("at(3, -1)", x, () -> x.at(3, -1), Check.BEYOND);
        Check.finding("at(3, most int)", x, () -> x.at(3, Integer.MAX_VALUE), Check.BEYOND);
    }

    private static void tear() {
        ThumbReader x = new ThumbReader();
        x.row(4, 0);
        Check.due("tear(4)", x.tear(4), 1);
        Check.due("count(6)", x.count(6), 0);
        Check.finding("tear(4) again", x, () -> x.tear(4), Check.NOTHING);
        Check.finding("at(4, 0) torn", x, () -> x.at(4, 0), Check.NOTHING);
        Check.unchanged("tear(6)", x, () -> x.tear(6), Check.BAD);
        Check.unchanged("tear(-1)", x, () -> x.tear(-1), Check.BAD);
    }

    private static void copy() {
        ThumbReader x = new ThumbReader();
        Check.fill(x, 0, 1, 2, 3, 4, 5);
        x.row(1, 3);
        Check.due("copy(0, 1, 1, 0, 3)", x.copy(0, 1, 1, 0, 3), 1);
        Check.rowIs("copy(0, 1, 1, 0, 3)", x, 1, 2, 3, 4);
        Check.due("copy(0, 0, 0, 1, 4)", x.copy(0, 0, 0, 1, 4), 1);
        Check.rowIs("copy(0, 0, 0, 1, 4) onto itself", x, 0, 1, 1, 2, 3, 4);
        Check.due("copy(0, 1, 0, 0, 4)", x.copy(0, 1, 0, 0, 4), 1);
        Check.rowIs("copy(0, 1, 0, 0, 4) onto itself", x, 0, 1, 2, 3, 4, 4);
        Check.due("copy(0, 5, 1, 3, 0): none at the ends", x.copy(0, 5, 1, 3, 0), 1);
        Check.rowIs("none copied", x, 1, 2, 3, 4);
    }

    private static void copyRefused() {
        ThumbReader x = new ThumbReader();
        Check.fill(x, 0, 1, 2, 3);
        Check.fill(x, 1, 4, 5);
        Check.unchanged("copy(6, ..)", x, () -> x.copy(6, 0, 0, 0, -1), Check.BAD);
        Check.unchanged("copy(0, 0, -1, ..)", x, () -> x.copy(0, 0, -1, 0, -1), Check.BAD);
        Check.finding("copy(2, 9, 3, 9, -1): SIZE first", x, () -> x.copy(2, 9, 3, 9, -1), Check.SIZE);
        Check.finding("copy(2, 9, 0, 0, 1): NOTHING first", x, () -> x.copy(2, 9, 0, 0, 1), Check.NOTHING);
        Check.finding("copy(0, 9, 2, 0, 1)", x, () -> x.copy(0, 9, 2, 0, 1), Check.NOTHING);
        Check.finding("copy(0, 0, 1, 0, 3)", x, () -> x.copy(0, 0, 1, 0, 3), Check.BEYOND);
        Check.finding("copy(1, 0, 0, 0, 3)", x, () -> x.copy(1, 0, 0, 0, 3), Check.BEYOND);
        Check.finding("copy(0, -1, 1, 0, 1)", x, () -> x.copy(0, -1, 1, 0, 1), Check.BEYOND);
        Check.finding("copy(0, 0, 1, -1, 1)", x, () -> x.copy(0, 0, 1, -1, 1), Check.BEYOND);
        Check.finding("copy(0, 4, 1, 0, 0)", x, () -> x.copy(0, 4, 1, 0, 0), Check.BEYOND);
        Check.finding("copy(0, 2, 1, 0, 2)", x, () -> x.copy(0, 2, 1, 0, 2), Check.BEYOND);
        Check.finding("copy(0, 0, 1, 1, 2)", x, () -> x.copy(0, 0, 1, 1, 2), Check.BEYOND);
        int most = Integer.MAX_VALUE;
        Check.finding("copy(0, most, 1, most, most)", x, () -> x.copy(0, most, 1, most, most), Check.BEYOND);
        Check.finding("copy(0, 1, 1, 1, most)", x, () -> x.copy(0, 1, 1, 1, most), Check.BEYOND);
    }

    private static void mean() {
        ThumbReader x = new ThumbReader();
        Check.fill(x, 0, 1, 2, 2);
        Check.told("mean 5 by 3", x, x.mean(0), 1);
        Check.fill(x, 0, -1, -2, -2);
        Check.told("mean -5 by 3, cut", x, x.mean(0), -1);
        Check.fill(x, 0, Integer.MAX_VALUE, Integer.MAX_VALUE);
        Check.told("mean of the greatest", x, x.mean(0), Integer.MAX_VALUE);
        Check.fill(x, 0, Integer.MIN_VALUE, Integer.MIN_VALUE, Integer.MIN_VALUE);
        Check.told("mean of the least", x, x.mean(0), Integer.MIN_VALUE);
        x.row(1, 0);
        Check.finding("mean of none", x, () -> x.mean(1), Check.NOUGHT);
        Check.finding("mean of a missing one", x, () -> x.mean(2), Check.NOTHING);
        Check.unchanged("mean(6)", x, () -> x.mean(6), Check.BAD);
        Check.unchanged("mean(-1)", x, () -> x.mean(-1), Check.BAD);
    }

    private static void text() {
        ThumbReader x = new ThumbReader();
        Check.due("text(0, 0)", x.text(0, 0), 0);
        Check.due("text(3, 80)", x.text(3, 80), 80);
        Check.due("count(7)", x.count(7), 2);
        Check.due("put(3, 79, 65)", x.put(3, 79, 65), 1032);
        Check.due("text(3, 80) anew", x.text(3, 80), 80);
        Check.due("put(3, 79, 66) anew", x.put(3, 79, 66), 1032);
        Check.unchanged("text(3, 81)", x, () -> x.text(3, 81), Check.BAD);
        Check.unchanged("text(4, 1)", x, () -> x.text(4, 1), Check.BAD);
        Check.unchanged("text(-1, 1)", x, () -> x.text(-1, 1), Check.BAD);
        Check.unchanged("text(4, -1): BAD first", x, () -> x.text(4, -1), Check.BAD);
        Check.finding("text(0, -1)", x, () -> x.text(0, -1), Check.SIZE);
    }

    private static void put() {
        ThumbReader x = new ThumbReader();
        x.text(1, 2);
        Check.due("put(1, 0, 127)", x.put(1, 0, 127), 1032);
        Check.due("put(1, 0, 128)", x.put(1, 0, 128), 1127);
        Check.due("put(1, 0, 511)", x.put(1, 0, 511), 872);
        Check.due("put(1, 0, 256 + 65)", x.put(1, 0, 256 + 65), 999);
        Check.due("put(1, 0, 0)", x.put(1, 0, 0), 1065);
        Check.unchanged("put(4, 0, 0)", x, () -> x.put(4, 0, 0), Check.BAD);
        Check.unchanged("put(-1, 0, 0)", x, () -> x.put(-1, 0, 0), Check.BAD);
        Check.finding("put(0, -1, 0): NOTHING first", x, () -> x.put(0, -1, 0), Check.NOTHING);
        Check.finding("put(1, 2, 0)", x, () -> x.put(1, 2, 0), Check.BEYOND);
        Check.finding("put(1, -1, 0)", x, () -> x.put(1, -1, 0), Check.BEYOND);
    }
}
