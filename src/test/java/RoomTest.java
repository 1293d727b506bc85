/** All calls of a run share one room: behind its constructor an object makes next to nothing. */
public final class RoomTest {
    private static final long MOST_BYTES_NEW = 12000;
    private static final long MOST_BYTES_CALLS = 4096;

    public static void main(String[] args) {
        com.sun.management.ThreadMXBean threads =
            (com.sun.management.ThreadMXBean) java.lang.management.ManagementFactory.getThreadMXBean();
        long self = Thread.currentThread().getId();
        use(Check.office("h00000h00000h00000h00000h00000 c22 w20 l20 d20 p00001p00001p00001p00001"));
        long before = threads.getThreadAllocatedBytes(self);
        ThumbReader made = new ThumbReader();
        long one = threads.getThreadAllocatedBytes(self) - before;
        Check.due("a new one has no HEADS", made.count(0), 0);
        ThumbReader x = Check.office("h00000h00000h00000h00000h00000 c22 w20 l20 d20 p00001p00001p00001p00001");
        before = threads.getThreadAllocatedBytes(self);
        use(x);
        long calls = threads.getThreadAllocatedBytes(self) - before;
        System.out.println("bytes of a new object: " + one + ", of its calls: " + calls);
        Check.due("a new object is small", one <= MOST_BYTES_NEW ? 1 : 0, 1);
        Check.due("its calls make nothing", calls <= MOST_BYTES_CALLS ? 1 : 0, 1);
        Check.end();
    }

    private static void use(ThumbReader x) {
        for (int i = 0; i < 8; i++) {
            x.row(0, 4);
            x.row(1, 5);
            x.row(2, 39);
            x.lay(0, 0, 1);
            x.at(0, 9);
            x.copy(0, 0, 1, 0, 4);
            x.mean(1);
            x.row(1, 5);
            x.lay(1, 2, 1);
            x.text(1, 80);
            x.put(1, 0, 104);
            x.fault(1);
            x.fault(0);
            x.office(0);
            for (int kind = 1; kind <= 5; kind++) {
                x.mark(i % 4, kind);
            }
            x.pad(0, 0);
            x.grow(1);
            x.cut(2, 0);
            x.keep(i % 3);
            x.undo(1);
            x.on(i % 3);
            x.reads(0, 0, 0);
            x.fits(0, 0, 0);
            x.whose(0, 0);
            x.who(0, 0);
            x.odds(0, 0, 0);
            x.look(0);
            x.alike(0, 0);
            x.suits(0, 0, 0);
            x.luck(0, 0, 0);
            x.pads(0, 0, 0, 3);
            x.all(0, 0);
            x.finds(0, 0, 0);
            x.posts(0, 0);
            x.plan(1, 3);
            x.plans(1);
            x.safest(4);
            x.gain(1, 0);
            x.learn(2, 0);
            x.tells(1);
            x.lots(0, 5, 77);
            x.tear(4);
            x.digest();
        }
    }
}
