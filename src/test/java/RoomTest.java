import java.lang.management.ManagementFactory;

/** All calls of a run live in one room: an object is small, and no call makes anything. */
public final class RoomTest {
    private static final Due DUE = new Due();
    private static long sum = 0;

    public static void main(String[] args) {
        com.sun.management.ThreadMXBean room = (com.sun.management.ThreadMXBean) ManagementFactory.getThreadMXBean();
        CheeseHill x = new CheeseHill();
        dear(x);
        long ahead = room.getCurrentThreadAllocatedBytes();
        for (int k = 0; k < 100; k++) {
            dear(x);
        }
        long behind = room.getCurrentThreadAllocatedBytes();
        DUE.is("bytes that 100 rounds of the dearest calls made, by 10000", (behind - ahead) / 10000, 0);
        ahead = room.getCurrentThreadAllocatedBytes();
        for (int k = 0; k < 100; k++) {
            sum += new CheeseHill().count(0);
        }
        behind = room.getCurrentThreadAllocatedBytes();
        DUE.is("bytes of an object, by 40000", (behind - ahead) / 100 / 40000, 0);
        DUE.end("RoomTest");
    }

    private static void dear(CheeseHill x) {
        x.clear();
        x.type(0x68696c6c20382036L, 8);
        x.type(';', 1);
        sum += x.read();
        for (int i = 0; i < 6; i++) {
            x.runner(i % 5, i, 10 * i);
            x.hurt(i % 4);
        }
        for (int i = 0; i < 6; i++) {
            sum += x.best(i, 5, CheeseHill.NONE) + x.best(i, 5, 7) + x.fall(i, 5) + x.down(i, 0) + x.goes(i, 7, 2)
                + x.feet(i) + x.place(i) + x.cheese(i, 0) + x.fence(i, 50);
        }
        sum += x.clashes() + x.apart() + x.catchers() + x.bale() + x.run() + x.waits(3, 5) + x.drawn(7, 9);
        sum += x.image(0) + x.undo() + x.from(0) + x.digest();
    }
}
