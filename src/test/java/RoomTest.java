import java.lang.management.ManagementFactory;

/** All calls of a run live in one room: what the calls make must be next to nothing. */
public final class RoomTest {
    private static final int ROUNDS = 40;
    private static final long MOST_BYTES_A_CALL = 64;

    public static void main(String[] args) {
        Check check = new Check();
        com.sun.management.ThreadMXBean meter = (com.sun.management.ThreadMXBean) ManagementFactory.getThreadMXBean();
        long self = Thread.currentThread().getId();
        HoleCounty x = Check.county("101010/000000/101010/000000/100000/000009");
        long sum = everyCall(x);
        long ahead = meter.getThreadAllocatedBytes(self);
        for (int k = 0; k < ROUNDS; k++) {
            sum += everyCall(x);
        }
        long made = (meter.getThreadAllocatedBytes(self) - ahead) / (ROUNDS * 40L);
        check.holds("calls answer " + sum, sum != 0);
        check.holds("bytes made by a call: " + made, made <= MOST_BYTES_A_CALL);
        long before = meter.getThreadAllocatedBytes(self);
        HoleCounty y = new HoleCounty();
        long whole = meter.getThreadAllocatedBytes(self) - before;
        check.holds("bytes of an object: " + whole, whole < 16000 && y.count(0) == 0);
        check.end("RoomTest");
    }

    private static long everyCall(HoleCounty x) {
        long sum = x.dig(7) + x.roof(7) + x.fill(7) + x.undo() + x.own(3, 2) + x.rate(4) + x.told(0, 3);
        sum += x.type('d') + x.ground() + x.type('1') + x.owners() + x.type('d') + x.day() + x.count(2);
        sum += x.hole(0, 6) + x.cells(0, 2) + x.part(0, 2) + x.pays(2) + x.worth(2) + x.filled(0, -1) + x.split(0, -1);
        sum += x.dug(0, 35, 3) + x.loophole() + x.roofs(0) + x.round(20, -1) + x.border(1) + x.cut(0);
        sum += x.books(0b111111, 8, -1, 2) + x.seed(9) + x.image() + x.restore();
        sum += x.sheet(0, 0, 36) + x.film(0, 0, 0) + x.miscounted(0, 0, 0, 12) + x.item(0, 0, 0, 1) + x.copy(0, 0, 0, 1, 35);
        sum += x.lay(7, 0, 0, 0, 1) + x.drop(0) + x.fill(7);
        return sum;
    }
}
