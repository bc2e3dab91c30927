import java.util.ArrayList;
import java.util.List;
import java.util.function.ObjIntConsumer;
import java.util.function.Supplier;

/** What each call leaves as it was: held against the model, since asking the object twice would hide what asking changes. */
public final class KeptTest {
    private static final Checks CHECKS = new Checks();
    private static final long[] VALUES = {3, -11, 2, 7, 5, 0x123456789ABCDEFL};

    private final PairLegaliser x = new PairLegaliser();
    private final Model m = new Model();

    public static void main(String[] args) {
        for (Supplier<KeptTest> state : states()) {
            asking(state);
            forEachRegister(state, "get", (both, r) -> both.x.get(r));
            forEachRegister(state, "sign", (both, r) -> both.x.sign(r));
            forEachRegister(state, "ones", (both, r) -> both.x.ones(r));
            forEachRegister(state, "set", (both, r) -> both.set(r, -99));
            forEachRegister(state, "refused append", (both, r) -> both.append(16, r, r, r));
            forEachRegister(state, "append", (both, r) -> both.append(2, r, 5, 0));
            forEachRegister(state, "loop", (both, r) -> both.loop(r, 0));
            shrinking(state);
        }
        CHECKS.end("KeptTest");
    }

    private static List<Supplier<KeptTest>> states() {
        List<Supplier<KeptTest>> states = new ArrayList<>();
        for (int size : new int[] {0, 1, 8, 15, 16}) {
            for (int shift = 0; shift < 6; shift++) {
                int by = shift;
                states.add(() -> new KeptTest().program(size, by));
                states.add(() -> new KeptTest().program(size, by).ranTo(PairLegaliser.DONE));
            }
            states.add(() -> new KeptTest().loops(size));
            states.add(() -> new KeptTest().loops(size).ranTo(PairLegaliser.DONE));
        }
        states.add(() -> new KeptTest().loops(16).ranTo(PairLegaliser.TIRED));
        return states;
    }

    private void append(int op, int d, int a, int b) {
        CHECKS.due("append(" + op + ", " + d + ", " + a + ", " + b + ")", x.append(op, d, a, b), m.append(op, d, a, b));
    }

    private void loop(int a, int k) {
        CHECKS.due("loop(" + a + ", " + k + ")", x.loop(a, k), m.loop(a, k));
    }

    private void set(int r, long v) {
        CHECKS.due("set(" + r + ", " + v + ")", x.set(r, v), m.set(r, v));
    }

    /** Instructions whose result tells of op, d, a and b, with other registers in the same place for each shift. */
    private KeptTest program(int n, int shift) {
        int[] ops = {3, 1, 2, 6};
        for (int i = 0; i < n; i++) {
            append(ops[(i + shift) % 4], (i + shift) % 6, (i + shift + 2) % 6, (i + shift + 3) % 6);
        }
        return this;
    }

    /** Every second one is a loop, back into the first half of what stands before it. */
    private KeptTest loops(int n) {
        for (int i = 0; i < n; i++) {
            if (i % 2 == 0) {
                append(1, 5, 5, i % 5);
            } else {
                loop(i % 5, i / 2);
            }
        }
        return this;
    }

    private KeptTest ranTo(int ending) {
        for (int r = 0; r < 6; r++) {
            set(r, ending == PairLegaliser.TIRED ? -1 - r : r % 3);
        }
        CHECKS.due("run()", x.run(), ending);
        CHECKS.due("run() of the model", m.run(), ending);
        return this;
    }

    private static void asking(Supplier<KeptTest> state) {
        for (int call = 0; call <= 4; call++) {
            KeptTest both = state.get();
            switch (call) {
                case 0 -> both.x.size();
                case 1 -> both.x.ending();
                case 2 -> both.x.worked();
                case 3 -> both.x.total();
                default -> new PairLegaliser().set(0, 1);
            }
            both.isAsTheModel(new String[] {"size", "ending", "worked", "total", "use of another object"}[call]);
        }
    }

    private static void forEachRegister(Supplier<KeptTest> state, String name, ObjIntConsumer<KeptTest> call) {
        for (int r = -1; r <= 6; r++) {
            KeptTest both = state.get();
            call.accept(both, r);
            both.isAsTheModel(name + " with register " + r);
        }
    }

    private static void shrinking(Supplier<KeptTest> state) {
        KeptTest shorter = state.get();
        CHECKS.due("unappend()", shorter.x.unappend(), shorter.m.unappend());
        shorter.isAsTheModel("unappend");
        KeptTest empty = state.get();
        empty.x.clear();
        empty.m.program.clear();
        empty.isAsTheModel("clear");
    }

    /** All that is seen of the object, then its program by what is left of it from run to run; it has no program after that. */
    private void isAsTheModel(String call) {
        String after = " after " + call;
        endingIsAsTheModels(after);
        CHECKS.due("size()" + after, x.size(), m.program.size());
        registersAreAsTheModels(after);
        endingIsAsTheModels(after);
        while (!m.program.isEmpty()) {
            for (int r = 0; r < 6; r++) {
                set(r, VALUES[r]);
            }
            CHECKS.due("run()" + after, x.run(), m.run());
            endingIsAsTheModels(after);
            registersAreAsTheModels(after);
            CHECKS.due("unappend()" + after, x.unappend(), m.unappend());
        }
    }

    private void endingIsAsTheModels(String after) {
        CHECKS.due("ending()" + after, x.ending(), m.ending);
        CHECKS.due("worked()" + after, x.worked(), m.worked);
    }

    private void registersAreAsTheModels(String after) {
        for (int r = 0; r < 6; r++) {
            CHECKS.due("get(" + r + ")" + after, x.get(r), m.get(r));
        }
    }
}
