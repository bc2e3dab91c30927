/** Promises 7, 8, 9, 13 and 14. */
public final class RegisterTest {
    private static final Checks CHECKS = new Checks();
    private static final int[] OUTSIDE = {Integer.MIN_VALUE, -6, -1, 6, 7, 64, 256, Integer.MAX_VALUE};
    private static final long[] VALUES = {
        0, 1, -1, 2, -2, 0x7FFFFFFFL, 0x80000000L, -0x80000000L, 0xFFFFFFFFL, 0x100000000L, -0x100000000L,
        0x5555555555555555L, 0xAAAAAAAAAAAAAAAAL, Long.MAX_VALUE, Long.MIN_VALUE, Long.MIN_VALUE + 1};

    public static void main(String[] args) {
        everyRegister();
        outside();
        signs();
        ones();
        totals();
        setTouchesNothingElse();
        CHECKS.end("RegisterTest");
    }

    private static void everyRegister() {
        for (int r = 0; r < 6; r++) {
            PairLegaliser x = new PairLegaliser();
            for (long v : VALUES) {
                CHECKS.due("set(" + r + ", " + v + ")", x.set(r, v), 0);
                CHECKS.due("total()", x.total(), v);
                for (int other = 0; other < 6; other++) {
                    CHECKS.due("get(" + other + ")", x.get(other), other == r ? v : 0);
                }
            }
        }
    }

    private static void outside() {
        PairLegaliser x = new PairLegaliser();
        for (int r = 0; r < 6; r++) {
            x.set(r, -1 - r);
        }
        String before = Checks.seen(x);
        for (int r : OUTSIDE) {
            CHECKS.due("set(" + r + ", 9)", x.set(r, 9), PairLegaliser.BAD_ARG);
            CHECKS.due("get(" + r + ")", x.get(r), 0);
            CHECKS.due("sign(" + r + ")", x.sign(r), 0);
            CHECKS.due("ones(" + r + ")", x.ones(r), 0);
        }
        CHECKS.same("a call with a wrong register", x, before);
    }

    private static void signs() {
        for (int r = 0; r < 6; r++) {
            PairLegaliser x = new PairLegaliser();
            for (long v : VALUES) {
                x.set(r, v);
                CHECKS.due("sign(" + r + ") of " + v, x.sign(r), v == 0 ? 0 : v > 0 ? 1 : -1);
                CHECKS.due("sign of another register", x.sign((r + 1) % 6), 0);
            }
        }
    }

    private static void ones() {
        PairLegaliser x = new PairLegaliser();
        for (int digit = 0; digit < 64; digit++) {
            int r = digit % 6;
            x.set(r, 1L << digit);
            CHECKS.due("ones of digit " + digit, x.ones(r), 1);
            x.set(r, -1L << digit);
            CHECKS.due("ones from digit " + digit + " on", x.ones(r), 64 - digit);
        }
        for (long v : VALUES) {
            x.set(5, v);
            CHECKS.due("ones of " + v, x.ones(5), Long.bitCount(v));
        }
    }

    private static void totals() {
        PairLegaliser x = new PairLegaliser();
        for (int r = 0; r < 6; r++) {
            x.set(r, 1L << (10 * r));
        }
        CHECKS.due("total()", x.total(), 1L + (1L << 10) + (1L << 20) + (1L << 30) + (1L << 40) + (1L << 50));
        for (int r = 0; r < 6; r++) {
            x.set(r, Long.MAX_VALUE);
        }
        CHECKS.due("total() of six greatest longs", x.total(), -6);
        for (int r = 0; r < 6; r++) {
            x.set(r, r < 5 ? Long.MIN_VALUE : -1);
        }
        CHECKS.due("total() of five least longs and -1", x.total(), Long.MAX_VALUE);
    }

    private static void setTouchesNothingElse() {
        PairLegaliser x = new PairLegaliser();
        x.append(1, 0, 1, 1);
        x.run();
        x.set(1, 21);
        CHECKS.due("get(0) before the next run", x.get(0), 0);
        CHECKS.due("size()", x.size(), 1);
        CHECKS.due("ending()", x.ending(), PairLegaliser.DONE);
        CHECKS.due("worked()", x.worked(), 1);
        x.run();
        CHECKS.due("get(0)", x.get(0), 42);
    }
}
