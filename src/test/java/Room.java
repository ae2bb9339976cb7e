import java.lang.management.ManagementFactory;

/** All calls of a run live in one room: an object is small, and its calls make nothing new. */
public final class Room {
    private static final int MOST_BYTES_OF_AN_OBJECT = 24_000;

    private Room() {
    }

    public static void main(String[] args) {
        com.sun.management.ThreadMXBean meter =
            (com.sun.management.ThreadMXBean) ManagementFactory.getThreadMXBean();
        meter.getCurrentThreadAllocatedBytes();
        callAll(full());
        long start = meter.getCurrentThreadAllocatedBytes();
        SubjectNet net = new SubjectNet();
        long made = meter.getCurrentThreadAllocatedBytes() - start;
        System.out.println("Room: an object takes " + made + " bytes");
        Check.due("room: an object is small", made <= MOST_BYTES_OF_AN_OBJECT && net.count(0) == 0, true);
        SubjectNet dear = full();
        start = meter.getCurrentThreadAllocatedBytes();
        callAll(dear);
        long more = meter.getCurrentThreadAllocatedBytes() - start;
        Check.due("room: bytes that calls make", more, 0);
        Check.finish("Room");
    }

    /** 24 TERMS, each linked to all behind it. */
    private static SubjectNet full() {
        SubjectNet net = Check.terms(24);
        for (int x = 0; x < 24; x++) {
            for (int y = x + 1; y < 24; y++) {
                net.links(x, y);
            }
        }
        return net;
    }

    private static void callAll(SubjectNet net) {
        net.keep(0);
        for (int i = 0; i < 3; i++) {
            net.would(23, 0);
            net.way(0, 23);
            net.ways(0, 23);
            net.between(0, 23);
            net.meets(22, 23);
            net.steps(0, 23);
            net.depth(5);
            net.tops();
            net.needless();
            net.chains();
            net.apart(net.count(1));
            net.kin(3, 2);
            net.kin(3, 3);
            net.labels(0);
            net.years(i, 60);
            net.sign(0x612a2b62);
            net.search();
            net.sign(0x613e6263);
            net.net();
            net.sign(0x74000000);
            net.end(1);
            net.day();
            net.sign(0x7a000000);
            net.end(1);
            net.label(3);
            net.posts(3, 4);
            net.posted(3);
            net.goes(7, 1);
            net.merges(3, 4);
            net.thins();
            net.undo();
            net.sign(0x79000000);
            net.end(1);
            net.term();
            net.unposts(3, 4);
            net.unlinks(3, 4);
            net.again(0);
        }
    }
}
