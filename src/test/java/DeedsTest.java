/** Promises 17 to 22: pads, growth, hair, undone, kept, gone on from. */
public final class DeedsTest {
    public static void main(String[] args) {
        pad();
        grow();
        cut();
        full();
        undo();
        keepAndOn();
        Check.end();
    }

    private static void headIs(String what, ThumbReader x, int h, int... numbers) {
        for (int i = 0; i < numbers.length; i++) {
            Check.told(what + ": head(" + h + ", " + i + ")", x, x.head(h, i), numbers[i]);
        }
    }

    private static void pad() {
        ThumbReader x = Check.office("h12343 h05000");
        Check.due("pad(0, 3)", x.pad(0, 3), 5);
        headIs("pad(0, 3)", x, 0, 1, 2, 3, 5, 3);
        Check.due("pad(1, 0)", x.pad(1, 0), 1);
        Check.due("DEEDS", x.count(3), 2);
        Check.unchanged("pad(0, 3) at 5", x, () -> x.pad(0, 3), Check.STATE);
        Check.unchanged("pad(1, 1) at 5", x, () -> x.pad(1, 1), Check.STATE);
        Check.unchanged("pad(2, 0)", x, () -> x.pad(2, 0), Check.BAD);
        Check.unchanged("pad(-1, 0)", x, () -> x.pad(-1, 0), Check.BAD);
        Check.unchanged("pad(0, 4)", x, () -> x.pad(0, 4), Check.BAD);
        Check.unchanged("pad(0, -1)", x, () -> x.pad(0, -1), Check.BAD);
    }

    private static void grow() {
        ThumbReader x = Check.office("h12353 h55550");
        Check.due("grow(0)", x.grow(0), 14);
        headIs("grow(0)", x, 0, 2, 3, 4, 5, 3);
        Check.due("grow(1) changes nothing", x.grow(1), 20);
        Check.due("but is a DEED", x.count(3), 2);
        Check.unchanged("grow(2)", x, () -> x.grow(2), Check.BAD);
        Check.unchanged("grow(-1)", x, () -> x.grow(-1), Check.BAD);
    }

    private static void cut() {
        ThumbReader x = Check.office("h12353 h55551");
        Check.due("cut(0, 2)", x.cut(0, 2), 3);
        headIs("cut(0, 2)", x, 0, 1, 2, 3, 5, 2);
        Check.due("cut(0, 0)", x.cut(0, 0), 2);
        Check.due("DEEDS", x.count(3), 2);
        Check.unchanged("cut(0, 0): it is 0", x, () -> x.cut(0, 0), Check.STATE);
        Check.unchanged("cut(1, 1): it is 1", x, () -> x.cut(1, 1), Check.STATE);
        Check.unchanged("cut(1, 2): it is 1", x, () -> x.cut(1, 2), Check.STATE);
        Check.unchanged("cut(1, 3)", x, () -> x.cut(1, 3), Check.BAD);
        Check.unchanged("cut(1, -1)", x, () -> x.cut(1, -1), Check.BAD);
        Check.unchanged("cut(2, 0)", x, () -> x.cut(2, 0), Check.BAD);
        Check.unchanged("cut(-1, 0)", x, () -> x.cut(-1, 0), Check.BAD);
    }

    private static void full() {
        ThumbReader x = Check.office("h55550 h00003");
        for (int d = 0; d < 40; d++) {
            Check.due("grow(0)", x.grow(0), 20);
        }
        Check.unchanged("grow(0), 40 DEEDS", x, () -> x.grow(0), Check.FULL);
        Check.unchanged("grow(2), 40 DEEDS", x, () -> x.grow(2), Check.BAD);
        Check.unchanged("pad(1, 0), 40 DEEDS", x, () -> x.pad(1, 0), Check.FULL);
        Check.unchanged("pad(0, 0), 40 DEEDS: FULL last", x, () -> x.pad(0, 0), Check.STATE);
        Check.unchanged("pad(0, 4), 40 DEEDS", x, () -> x.pad(0, 4), Check.BAD);
        Check.unchanged("cut(1, 0), 40 DEEDS", x, () -> x.cut(1, 0), Check.FULL);
        Check.unchanged("cut(0, 0), 40 DEEDS: FULL last", x, () -> x.cut(0, 0), Check.STATE);
        Check.due("undo(39)", x.undo(39), 1);
        Check.due("pad(1, 0), 39 DEEDS", x.pad(1, 0), 1);
    }

    private static void undo() {
        ThumbReader x = Check.office("h14353 h00001 t00");
        x.pad(0, 0);
        x.grow(0);
        x.cut(0, 1);
        x.pad(1, 2);
        x.grow(0);
        x.error(0, 2);
        Check.unchanged("undo(5): none", x, () -> x.undo(5), 0);
        Check.unchanged("undo(6)", x, () -> x.undo(6), Check.BAD);
        Check.unchanged("undo(-1)", x, () -> x.undo(-1), Check.BAD);
        headIs("all done", x, 0, 4, 5, 5, 5, 1);
        Check.due("undo(3)", x.undo(3), 2);
        headIs("undo(3)", x, 0, 3, 5, 4, 5, 1);
        headIs("undo(3)", x, 1, 0, 0, 0, 0, 1);
        Check.due("undo(1)", x.undo(1), 2);
        headIs("undo(1)", x, 0, 2, 4, 3, 5, 3);
        Check.due("undo(0)", x.undo(0), 1);
        headIs("undo(0)", x, 0, 1, 4, 3, 5, 3);
        Check.told("ERRORS stay", x, x.thumb(0, 1), 2);
        Check.due("DEEDS", x.count(3), 0);
    }

    private static void keepAndOn() {
        ThumbReader none = new ThumbReader();
        Check.unchanged("keep(0) without HEADS", none, () -> none.keep(0), Check.STATE);
        Check.unchanged("keep(3) without HEADS", none, () -> none.keep(3), Check.BAD);
        ThumbReader x = Check.office("h14353 h00001 t00 l11");
        Check.due("keep(2)", x.keep(2), 0);
        x.pad(0, 0);
        x.cut(0, 0);
        x.error(0, 2);
        x.error(1, 2);
        Check.due("keep(0)", x.keep(0), 2);
        Check.due("kept", x.count(8), 2);
        x.undo(0);
        x.grow(1);
        x.grow(1);
        x.error(0, 1);
        x.error(1, 0);
        Check.unchanged("on(3)", x, () -> x.on(3), Check.BAD);
        Check.unchanged("on(-1)", x, () -> x.on(-1), Check.BAD);
        Check.unchanged("keep(-1)", x, () -> x.keep(-1), Check.BAD);
        Check.finding("on(1)", x, () -> x.on(1), Check.NOTHING);
        Check.due("on(0)", x.on(0), 2);
        headIs("on(0)", x, 0, 2, 4, 3, 5, 0);
        headIs("on(0)", x, 1, 0, 0, 0, 0, 1);
        Check.told("on(0): ERROR 0", x, x.thumb(0, 1), 2);
        Check.told("on(0): ERROR 1", x, x.thumb(1, 1), 2);
        Check.due("DEEDS of the kept one are undone, too", x.undo(1), 1);
        headIs("undo(1)", x, 0, 2, 4, 3, 5, 3);
        Check.due("on(0) again", x.on(0), 2);
        headIs("on(0) again", x, 0, 2, 4, 3, 5, 0);
        Check.due("on(2)", x.on(2), 0);
        headIs("on(2)", x, 0, 1, 4, 3, 5, 3);
        Check.told("on(2): ERROR 0", x, x.thumb(0, 1), 0);
        Check.told("on(2): ERROR 1", x, x.thumb(1, 1), 1);
        Check.due("keep(0) anew", x.keep(0), 0);
        Check.due("on(0) is the newer one", x.on(0), 0);
    }
}
