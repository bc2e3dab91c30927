/** The boundary sentences of promises 7, 8, 9, 13 and 14. */
public final class RegisterEdgeTest {
    private static final Checks CHECKS = new Checks();

    public static void main(String[] args) {
        CHECKS.sentence("7: Register r becomes v", RegisterEdgeTest::setRegister);
        CHECKS.sentence("7: BAD_ARG if r is not 0 to 5", RegisterEdgeTest::setOutside);
        CHECKS.sentence("7: otherwise 0", RegisterEdgeTest::setAnswer);
        CHECKS.sentence("8: Register r", RegisterEdgeTest::getRegister);
        CHECKS.sentence("8: 0 if r is not 0 to 5", RegisterEdgeTest::getOutside);
        CHECKS.sentence("9: The sign of register r: -1, 0 or 1", RegisterEdgeTest::signOfRegister);
        CHECKS.sentence("9: 0 if r is not 0 to 5", RegisterEdgeTest::signOutside);
        CHECKS.sentence("13: The number of binary digits of register r that are 1", RegisterEdgeTest::onesOfRegister);
        CHECKS.sentence("13: 0 if r is not 0 to 5", RegisterEdgeTest::onesOutside);
        CHECKS.sentence("14: All registers added up", RegisterEdgeTest::totalOfAll);
        CHECKS.sentence("14: wrapping", RegisterEdgeTest::totalWraps);
        CHECKS.end("RegisterEdgeTest");
    }

    /** No register is 0, so that an answer for a wrong r taken from any of them shows. */
    private static PairLegaliser filled(long v) {
        PairLegaliser x = new PairLegaliser();
        for (int r = 0; r <= 5; r++) {
            x.set(r, v);
        }
        return x;
    }

    private static void setRegister() {
        for (int r = 0; r <= 5; r++) {
            for (long v : Edges.LONGS) {
                PairLegaliser x = filled(77);
                x.set(r, v);
                for (int other = 0; other <= 5; other++) {
                    CHECKS.due("get(" + other + ") after set(" + r + ", " + v + ")", x.get(other), other == r ? v : 77);
                }
            }
        }
    }

    private static void setOutside() {
        for (int r : Edges.NO_REGISTERS) {
            for (long v : Edges.LONGS) {
                PairLegaliser x = filled(77);
                CHECKS.due("set(" + r + ", " + v + ")", x.set(r, v), PairLegaliser.BAD_ARG);
                CHECKS.same("set(" + r + ", " + v + ")", x, Checks.seen(filled(77)));
            }
        }
    }

    private static void setAnswer() {
        for (long v : Edges.LONGS) {
            for (int r = 0; r <= 5; r++) {
                CHECKS.due("set(" + r + ", " + v + ")", new PairLegaliser().set(r, v), 0);
            }
        }
    }

    private static void getRegister() {
        for (long v : Edges.LONGS) {
            PairLegaliser x = new PairLegaliser();
            x.set(0, v);
            x.append(0, 5, 0, 0);
            x.run();
            CHECKS.due("get(0)", x.get(0), v);
            CHECKS.due("get(5)", x.get(5), v);
            CHECKS.due("get(1)", x.get(1), 0);
        }
    }

    private static void getOutside() {
        for (int r : Edges.NO_REGISTERS) {
            CHECKS.due("get(" + r + ")", filled(-1).get(r), 0);
            CHECKS.due("get(" + r + ")", filled(Long.MAX_VALUE).get(r), 0);
        }
    }

    private static void signOfRegister() {
        for (int r = 0; r <= 5; r++) {
            signs(r, Long.MIN_VALUE, -1);
            signs(r, -1L << 32, -1);
            signs(r, -1L << 31, -1);
            signs(r, -1, -1);
            signs(r, 0, 0);
            signs(r, 1, 1);
            signs(r, 1L << 31, 1);
            signs(r, 1L << 32, 1);
            signs(r, 0xFFFFFFFFL, 1);
            signs(r, 1L << 62, 1);
            signs(r, Long.MAX_VALUE, 1);
        }
    }

    private static void signs(int r, long v, int want) {
        PairLegaliser x = filled(v > 0 ? -3 : 3);
        x.set(r, v);
        CHECKS.due("sign(" + r + ") of " + v, x.sign(r), want);
    }

    private static void signOutside() {
        for (int r : Edges.NO_REGISTERS) {
            CHECKS.due("sign(" + r + ")", filled(-1).sign(r), 0);
            CHECKS.due("sign(" + r + ")", filled(1).sign(r), 0);
        }
    }

    private static void onesOfRegister() {
        for (int r = 0; r <= 5; r++) {
            counts(r, 0, 0);
            counts(r, -1, 64);
            counts(r, Long.MAX_VALUE, 63);
            counts(r, Long.MIN_VALUE, 1);
            counts(r, 0xFFFFFFFFL, 32);
            counts(r, -1L << 32, 32);
            counts(r, 0xAAAAAAAAAAAAAAAAL, 32);
            for (int digit = 0; digit < 64; digit++) {
                counts(r, 1L << digit, 1);
                counts(r, ~(1L << digit), 63);
            }
        }
    }

    private static void counts(int r, long v, int want) {
        PairLegaliser x = filled(31);
        x.set(r, v);
        CHECKS.due("ones(" + r + ") of " + v, x.ones(r), want);
    }

    private static void onesOutside() {
        for (int r : Edges.NO_REGISTERS) {
            CHECKS.due("ones(" + r + ")", filled(-1).ones(r), 0);
        }
    }

    private static void totalOfAll() {
        CHECKS.due("total() of a new object", new PairLegaliser().total(), 0);
        for (int r = 0; r <= 5; r++) {
            for (long v : Edges.LONGS) {
                PairLegaliser x = new PairLegaliser();
                x.set(r, v);
                CHECKS.due("total() with " + v + " in " + r, x.total(), v);
            }
        }
        CHECKS.due("total() of six times 2 to the 32", filled(1L << 32).total(), 6L << 32);
        CHECKS.due("total() of six times -1", filled(-1).total(), -6);
    }

    private static void totalWraps() {
        for (int r = 0; r <= 4; r++) {
            PairLegaliser up = new PairLegaliser();
            up.set(r, Long.MAX_VALUE);
            up.set(r + 1, 1);
            CHECKS.due("total() of the greatest and 1", up.total(), Long.MIN_VALUE);
            PairLegaliser down = new PairLegaliser();
            down.set(r, Long.MIN_VALUE);
            down.set(r + 1, -1);
            CHECKS.due("total() of the least and -1", down.total(), Long.MAX_VALUE);
        }
        CHECKS.due("total() of six greatest", filled(Long.MAX_VALUE).total(), -6);
        CHECKS.due("total() of six least", filled(Long.MIN_VALUE).total(), 0);
    }
}
