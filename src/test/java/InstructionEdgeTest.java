/** The lines of 'Terms' that tell instructions 0 to 15, each at its boundary cases. */
public final class InstructionEdgeTest {
    private static final Checks CHECKS = new Checks();
    private static final long LEAST = Long.MIN_VALUE;
    private static final long GREATEST = Long.MAX_VALUE;
    private static final long TWO_31 = 1L << 31;
    private static final long TWO_32 = 1L << 32;

    public static void main(String[] args) {
        CHECKS.sentence("0  move d a          d becomes a", InstructionEdgeTest::move);
        CHECKS.sentence("1  add d a b         d becomes a + b", InstructionEdgeTest::add);
        CHECKS.sentence("2  sub d a b         a - b", InstructionEdgeTest::sub);
        CHECKS.sentence("3  mul d a b         a * b", InstructionEdgeTest::mul);
        CHECKS.sentence("4  and d a b         a & b", InstructionEdgeTest::and);
        CHECKS.sentence("5  or d a b          a | b", InstructionEdgeTest::or);
        CHECKS.sentence("6  xor d a b         a ^ b", InstructionEdgeTest::xor);
        CHECKS.sentence("7  shl d a b         a << (b & 63)", InstructionEdgeTest::shl);
        CHECKS.sentence("8  shr d a b         a >> (b & 63)      (the sign is kept)", InstructionEdgeTest::shr);
        CHECKS.sentence("9  ushr d a b        a >>> (b & 63)     (zeros come in)", InstructionEdgeTest::ushr);
        CHECKS.sentence("10 less d a b        1 if a < b as signed numbers, else 0", InstructionEdgeTest::less);
        CHECKS.sentence("11 below d a b       1 if a < b as unsigned numbers, else 0", InstructionEdgeTest::below);
        CHECKS.sentence("12 equal d a b       1 if a is b, else 0", InstructionEdgeTest::equal);
        CHECKS.sentence("13 low d a           the lowest 32 binary digits of a as a signed int, made a long "
            + "(the sign is kept)", InstructionEdgeTest::low);
        CHECKS.sentence("14 ulow d a          the lowest 32 binary digits of a as a number from 0 to "
            + "2 to the 32 minus 1", InstructionEdgeTest::ulow);
        CHECKS.sentence("15 high d a          a >> 32 (the sign is kept)", InstructionEdgeTest::high);
        CHECKS.sentence("d, a, b stand for registers (d for the one that is changed", InstructionEdgeTest::oneIsChanged);
        CHECKS.sentence("d, a, b stand for registers (the same one may be named twice)", InstructionEdgeTest::sameRegister);
        CHECKS.sentence("for move, low, ulow, high the b is not used", InstructionEdgeTest::bIsNotUsed);
        CHECKS.sentence("all operations are those of Java's long", InstructionEdgeTest::wholeLongs);
        CHECKS.end("InstructionEdgeTest");
    }

    private static void due(int op, long a, long b, long want) {
        CHECKS.due("instruction " + op + " of " + a + " and " + b, Edges.worked(op, a, b), want);
    }

    private static void move() {
        for (long v : Edges.LONGS) {
            due(0, v, 7, v);
        }
    }

    private static void add() {
        due(1, GREATEST, 1, LEAST);
        due(1, LEAST, -1, GREATEST);
        due(1, LEAST, LEAST, 0);
        due(1, GREATEST, GREATEST, -2);
        due(1, Integer.MAX_VALUE, 1, TWO_31);
        due(1, 0xFFFFFFFFL, 1, TWO_32);
        due(1, GREATEST, 0, GREATEST);
    }

    private static void sub() {
        due(2, LEAST, 1, GREATEST);
        due(2, GREATEST, -1, LEAST);
        due(2, 0, LEAST, LEAST);
        due(2, -1, LEAST, GREATEST);
        due(2, Integer.MIN_VALUE, 1, -TWO_31 - 1);
        due(2, 0, 1, -1);
        due(2, LEAST, LEAST, 0);
    }

    private static void mul() {
        due(3, LEAST, -1, LEAST);
        due(3, -1, LEAST, LEAST);
        due(3, GREATEST, GREATEST, 1);
        due(3, GREATEST, 2, -2);
        due(3, LEAST, 2, 0);
        due(3, TWO_32, TWO_32, 0);
        due(3, TWO_32, TWO_31, LEAST);
        due(3, 0xFFFFFFFFL, 0xFFFFFFFFL, 0xFFFFFFFE00000001L);
        due(3, GREATEST, 0, 0);
    }

    private static void and() {
        due(4, -1, LEAST, LEAST);
        due(4, LEAST, GREATEST, 0);
        due(4, -1, -1, -1);
        due(4, -1, 0, 0);
        due(4, 0xF0F0F0F0F0F0F0F0L, 0xFF00FF00FF00FF00L, 0xF000F000F000F000L);
    }

    private static void or() {
        due(5, LEAST, GREATEST, -1);
        due(5, LEAST, 1, LEAST + 1);
        due(5, 0, 0, 0);
        due(5, -1, -1, -1);
        due(5, 0xF0F0F0F0F0F0F0F0L, 0xFF00FF00FF00FF00L, 0xFFF0FFF0FFF0FFF0L);
    }

    private static void xor() {
        due(6, LEAST, GREATEST, -1);
        due(6, LEAST, -1, GREATEST);
        due(6, -1, -1, 0);
        due(6, -1, 0, -1);
        due(6, 0xF0F0F0F0F0F0F0F0L, 0xFF00FF00FF00FF00L, 0x0FF00FF00FF00FF0L);
    }

    private static void shl() {
        due(7, 1, 0, 1);
        due(7, 1, 31, TWO_31);
        due(7, 1, 32, TWO_32);
        due(7, 1, 63, LEAST);
        due(7, 1, 64, 1);
        due(7, 1, 65, 2);
        due(7, 1, -1, LEAST);
        due(7, 1, -63, 2);
        due(7, 1, TWO_32, 1);
        due(7, 1, LEAST + 1, 2);
        due(7, 1, GREATEST, LEAST);
        due(7, 3, 63, LEAST);
        due(7, LEAST, 1, 0);
        due(7, -1, 63, LEAST);
    }

    private static void shr() {
        due(8, LEAST, 0, LEAST);
        due(8, LEAST, 1, -1L << 62);
        due(8, LEAST, 32, -TWO_31);
        due(8, LEAST, 63, -1);
        due(8, LEAST, 64, LEAST);
        due(8, LEAST, 65, -1L << 62);
        due(8, LEAST, -1, -1);
        due(8, LEAST, TWO_32, LEAST);
        due(8, LEAST, LEAST, LEAST);
        due(8, LEAST, GREATEST, -1);
        due(8, -1, 1, -1);
        due(8, GREATEST, 62, 1);
        due(8, GREATEST, 63, 0);
        due(8, -3, 1, -2);
    }

    private static void ushr() {
        due(9, LEAST, 0, LEAST);
        due(9, LEAST, 1, 1L << 62);
        due(9, LEAST, 32, TWO_31);
        due(9, LEAST, 63, 1);
        due(9, LEAST, 64, LEAST);
        due(9, LEAST, 65, 1L << 62);
        due(9, LEAST, -1, 1);
        due(9, LEAST, TWO_32, LEAST);
        due(9, LEAST, LEAST, LEAST);
        due(9, LEAST, GREATEST, 1);
        due(9, -1, 1, GREATEST);
        due(9, -1, 32, 0xFFFFFFFFL);
        due(9, GREATEST, 63, 0);
    }

    private static void less() {
        due(10, LEAST, GREATEST, 1);
        due(10, GREATEST, LEAST, 0);
        due(10, -1, 0, 1);
        due(10, 0, -1, 0);
        due(10, 0, 0, 0);
        due(10, LEAST, LEAST, 0);
        due(10, GREATEST, GREATEST, 0);
        due(10, LEAST, LEAST + 1, 1);
        due(10, GREATEST - 1, GREATEST, 1);
        due(10, 1, TWO_32, 1);
        due(10, TWO_32, 1, 0);
    }

    private static void below() {
        due(11, GREATEST, LEAST, 1);
        due(11, LEAST, GREATEST, 0);
        due(11, 0, -1, 1);
        due(11, -1, 0, 0);
        due(11, 0, 0, 0);
        due(11, -1, -1, 0);
        due(11, LEAST, LEAST, 0);
        due(11, 0, 1, 1);
        due(11, -2, -1, 1);
        due(11, -1, -2, 0);
        due(11, LEAST, -1, 1);
        due(11, 1, TWO_32, 1);
        due(11, TWO_32, 1, 0);
    }

    private static void equal() {
        for (long v : Edges.LONGS) {
            due(12, v, v, 1);
            for (int digit = 0; digit < 64; digit++) {
                due(12, v, v ^ 1L << digit, 0);
            }
        }
    }

    private static void low() {
        due(13, TWO_31 - 1, 0, TWO_31 - 1);
        due(13, TWO_31, 0, -TWO_31);
        due(13, TWO_32 - 1, 0, -1);
        due(13, TWO_32, 0, 0);
        due(13, TWO_32 + 1, 0, 1);
        due(13, -1, 0, -1);
        due(13, -TWO_31, 0, -TWO_31);
        due(13, -TWO_31 - 1, 0, TWO_31 - 1);
        due(13, LEAST, 0, 0);
        due(13, GREATEST, 0, -1);
    }

    private static void ulow() {
        due(14, TWO_31 - 1, 0, TWO_31 - 1);
        due(14, TWO_31, 0, TWO_31);
        due(14, TWO_32 - 1, 0, TWO_32 - 1);
        due(14, TWO_32, 0, 0);
        due(14, TWO_32 + 1, 0, 1);
        due(14, -1, 0, TWO_32 - 1);
        due(14, -TWO_31, 0, TWO_31);
        due(14, -TWO_31 - 1, 0, TWO_31 - 1);
        due(14, LEAST, 0, 0);
        due(14, GREATEST, 0, TWO_32 - 1);
    }

    private static void high() {
        due(15, 0, 0, 0);
        due(15, TWO_32 - 1, 0, 0);
        due(15, TWO_32, 0, 1);
        due(15, -1, 0, -1);
        due(15, -TWO_32, 0, -1);
        due(15, -TWO_32 - 1, 0, -2);
        due(15, LEAST, 0, -TWO_31);
        due(15, GREATEST, 0, TWO_31 - 1);
    }

    private static void oneIsChanged() {
        for (int op = 0; op <= 15; op++) {
            for (int d = 0; d < 6; d++) {
                PairLegaliser x = new PairLegaliser();
                for (int r = 0; r < 6; r++) {
                    x.set(r, 1000 + r);
                }
                x.append(op, d, (d + 1) % 6, (d + 5) % 6);
                x.run();
                for (int r = 0; r < 6; r++) {
                    long want = r == d ? Model.result(op, 1000 + (d + 1) % 6, 1000 + (d + 5) % 6) : 1000 + r;
                    CHECKS.due("get(" + r + ") after instruction " + op + " into " + d, x.get(r), want);
                }
            }
        }
    }

    private static void sameRegister() {
        int[] ends = {0, 5};
        for (int op = 0; op <= 15; op++) {
            for (int d : ends) {
                for (int a : ends) {
                    for (int b : ends) {
                        long want = Model.result(op, a == 0 ? -9 : 70, b == 0 ? -9 : 70);
                        CHECKS.due("instruction " + op + " " + d + " " + a + " " + b, atTheEnds(op, d, a, b), want);
                    }
                }
            }
        }
    }

    private static long atTheEnds(int op, int d, int a, int b) {
        PairLegaliser x = new PairLegaliser();
        x.set(0, -9);
        x.set(5, 70);
        x.append(op, d, a, b);
        x.run();
        return x.get(d);
    }

    private static void bIsNotUsed() {
        for (int op : new int[] {0, 13, 14, 15}) {
            for (long b : Edges.LONGS) {
                due(op, 0x89ABCDEF98765432L, b, Model.result(op, 0x89ABCDEF98765432L, 0));
            }
        }
    }

    /** No instruction cuts its numbers to fewer digits, and each wraps where a long does. */
    private static void wholeLongs() {
        for (int op = 0; op <= 15; op++) {
            for (int digit = 0; digit < 64; digit++) {
                due(op, 1L << digit, 1, Model.result(op, 1L << digit, 1));
                due(op, -1, 1L << digit, Model.result(op, -1, 1L << digit));
                due(op, -1L << digit, GREATEST, Model.result(op, -1L << digit, GREATEST));
            }
        }
    }
}
