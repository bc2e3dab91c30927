/** Promises 4, 5 and 6. */
public final class ShrinkTest {
    private static final Checks CHECKS = new Checks();

    public static void main(String[] args) {
        upAndDown();
        nothingToRemove();
        theLastOneGoes();
        clearRemovesAll();
        onlyTheProgramChanges();
        CHECKS.end("ShrinkTest");
    }

    private static void upAndDown() {
        PairLegaliser x = new PairLegaliser();
        for (int n = 0; n < 16; n++) {
            CHECKS.due("size()", x.size(), n);
            CHECKS.due("instruction " + n, n % 3 == 0 ? x.loop(0, n) : x.append(1, 0, 0, 0), n);
        }
        CHECKS.due("size()", x.size(), 16);
        for (int n = 15; n >= 0; n--) {
            CHECKS.due("unappend()", x.unappend(), n);
            CHECKS.due("size()", x.size(), n);
        }
    }

    private static void nothingToRemove() {
        PairLegaliser x = new PairLegaliser();
        x.set(2, 5);
        String before = Checks.seen(x);
        CHECKS.due("unappend()", x.unappend(), PairLegaliser.BAD_ARG);
        CHECKS.due("unappend() again", x.unappend(), PairLegaliser.BAD_ARG);
        CHECKS.same("a refused unappend", x, before);
        CHECKS.due("append", x.append(0, 0, 0, 0), 0);
        CHECKS.due("unappend()", x.unappend(), 0);
        CHECKS.due("unappend() of nothing", x.unappend(), PairLegaliser.BAD_ARG);
    }

    private static void theLastOneGoes() {
        PairLegaliser x = new PairLegaliser();
        x.set(0, 3);
        x.append(1, 0, 0, 0);
        x.append(3, 0, 0, 0);
        x.loop(1, 0);
        x.unappend();
        x.unappend();
        x.run();
        CHECKS.due("get(0) after the first alone", x.get(0), 6);
        CHECKS.due("append in the freed place", x.append(2, 1, 2, 0), 1);
        x.run();
        CHECKS.due("get(0)", x.get(0), 12);
        CHECKS.due("get(1)", x.get(1), -12);
        CHECKS.due("worked()", x.worked(), 2);
    }

    private static void clearRemovesAll() {
        PairLegaliser x = new PairLegaliser();
        x.clear();
        CHECKS.due("size() after clear of nothing", x.size(), 0);
        for (int i = 0; i < 16; i++) {
            x.append(1, 0, 0, 1);
        }
        x.set(1, 1);
        x.clear();
        CHECKS.due("size()", x.size(), 0);
        CHECKS.due("unappend()", x.unappend(), PairLegaliser.BAD_ARG);
        CHECKS.due("run()", x.run(), PairLegaliser.DONE);
        CHECKS.due("get(0)", x.get(0), 0);
        CHECKS.due("append", x.append(1, 2, 1, 1), 0);
        x.run();
        CHECKS.due("get(0) after a new program", x.get(0), 0);
        CHECKS.due("get(2) after a new program", x.get(2), 2);
    }

    /** How the last run ended is kept, whatever becomes of its program. */
    private static void onlyTheProgramChanges() {
        PairLegaliser x = new PairLegaliser();
        x.set(0, 1000);
        x.set(4, -7);
        x.loop(0, 0);
        x.append(0, 1, 1, 1);
        x.run();
        CHECKS.due("unappend()", x.unappend(), 1);
        keptAfter("unappend", x);
        x.clear();
        keptAfter("clear", x);
        CHECKS.due("append", x.append(0, 0, 0, 0), 0);
        keptAfter("append", x);
        CHECKS.due("loop", x.loop(0, 0), 1);
        keptAfter("loop", x);
    }

    private static void keptAfter(String call, PairLegaliser x) {
        CHECKS.due("ending() after " + call, x.ending(), PairLegaliser.TIRED);
        CHECKS.due("worked() after " + call, x.worked(), 300);
        CHECKS.due("get(0) after " + call, x.get(0), 700);
        CHECKS.due("get(4) after " + call, x.get(4), -7);
        CHECKS.due("total() after " + call, x.total(), 693);
    }
}
