/** What each instruction 0 to 15 makes of its registers, worked out here over numbers of any length. */
public final class InstructionTest {
    private static final Checks CHECKS = new Checks();
    private static final long[] EDGES = {
        0, 1, 2, 3, 5, 31, 32, 33, 62, 63, 64, 65, 127, 128, 1000003,
        -1, -2, -31, -32, -33, -63, -64, -65,
        0x7FFFFFFFL, 0x80000000L, 0x80000001L, 0xFFFFFFFEL, 0xFFFFFFFFL, 0x100000000L, 0x100000001L,
        -0x7FFFFFFFL, -0x80000000L, -0x80000001L, -0xFFFFFFFFL, -0x100000000L, -0x100000001L,
        0x17FFFFFFFL, 0x180000000L, 0x7FFFFFFF80000000L, 0x8000000080000000L, 0x800000007FFFFFFFL,
        0x5555555555555555L, 0xAAAAAAAAAAAAAAAAL, 0x0123456789ABCDEFL, 0xFEDCBA9876543210L,
        Long.MAX_VALUE, Long.MAX_VALUE - 1, Long.MIN_VALUE, Long.MIN_VALUE + 1};

    public static void main(String[] args) {
        byHand();
        for (int op = 0; op <= 15; op++) {
            for (long a : EDGES) {
                for (long b : EDGES) {
                    apart(op, a, b);
                }
                sameRegister(op, a);
            }
        }
        CHECKS.end("InstructionTest");
    }

    private static void byHand() {
        one(0, -7, 3, -7);
        one(1, Long.MAX_VALUE, 1, Long.MIN_VALUE);
        one(2, Long.MIN_VALUE, 1, Long.MAX_VALUE);
        one(3, 0x100000001L, 0x100000001L, 0x200000001L);
        one(4, 12, 10, 8);
        one(5, 12, 10, 14);
        one(6, 12, 10, 6);
        one(7, 1, 64 + 40, 1L << 40);
        one(8, -8, 65, -4);
        one(9, -1, 60, 15);
        one(10, -1, 1, 1);
        one(11, -1, 1, 0);
        one(11, 1, -1, 1);
        one(12, 1L << 32, 0, 0);
        one(13, 0x180000000L, 0, -0x80000000L);
        one(14, -1, 0, 0xFFFFFFFFL);
        one(15, -1, 0, -1);
    }

    private static void one(int op, long a, long b, long want) {
        CHECKS.due(op + " of " + a + " and " + b + " by the test's own reckoning", Model.result(op, a, b), want);
        apart(op, a, b);
    }

    private static void apart(int op, long a, long b) {
        PairLegaliser x = new PairLegaliser();
        x.set(3, a);
        x.set(5, b);
        x.set(1, 0x1111111111111111L);
        x.append(op, 1, 3, 5);
        x.run();
        CHECKS.due("instruction " + op + " of " + a + " and " + b, x.get(1), Model.result(op, a, b));
        CHECKS.due("a stays", x.get(3), a);
        CHECKS.due("b stays", x.get(5), b);
        CHECKS.due("no other register changes", x.total() - x.get(1) - a - b, 0);
    }

    private static void sameRegister(int op, long v) {
        PairLegaliser x = new PairLegaliser();
        x.set(2, v);
        x.append(op, 2, 2, 2);
        x.run();
        CHECKS.due("instruction " + op + " of " + v + " into itself", x.get(2), Model.result(op, v, v));
        CHECKS.due("total()", x.total(), Model.result(op, v, v));
    }
}
