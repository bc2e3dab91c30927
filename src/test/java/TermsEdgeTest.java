import java.util.function.Consumer;
import java.util.function.Supplier;

/** The boundary sentences of 'Terms' (but the instructions' own lines) and of what stands before it. */
public final class TermsEdgeTest {
    private static final Checks CHECKS = new Checks();
    private static final int[] INTS = {
        Integer.MIN_VALUE, -2, -1, 0, 5, 6, 15, 16, 17, 299, 300, 301, 512, Integer.MAX_VALUE};

    public static void main(String[] args) {
        CHECKS.sentence("An object is used for at most 512 calls after it has been made", TermsEdgeTest::lastCalls);
        CHECKS.sentence("Six REGISTERS 0 to 5 hold longs.", TermsEdgeTest::sixRegisters);
        CHECKS.sentence("A PROGRAM is a list of at most 16 INSTRUCTIONS, numbered 0, 1, ..", TermsEdgeTest::sixteen);
        CHECKS.sentence("k is the number of an instruction before it or its own", TermsEdgeTest::backOrItself);
        CHECKS.sentence("if register a is 0, the run goes on behind it", TermsEdgeTest::zeroGoesOn);
        CHECKS.sentence("else register a becomes register a - 1", TermsEdgeTest::takesOneAway);
        CHECKS.sentence("and the run goes on at instruction k", TermsEdgeTest::goesToK);
        CHECKS.sentence("A RUN works off instructions from number 0 on", TermsEdgeTest::fromNumberZero);
        CHECKS.sentence("until the end of the program is reached (it is then DONE)", TermsEdgeTest::endIsDone);
        CHECKS.sentence("or 300 instructions were worked off and the end is not reached (it is then TIRED)",
            TermsEdgeTest::tiredAt300);
        CHECKS.sentence("Registers keep what a run leaves in them.", TermsEdgeTest::registersAreKept);
        CHECKS.sentence("No call ever throws.", TermsEdgeTest::neverThrows);
        CHECKS.sentence("A refused call answers the code named and changes nothing.", TermsEdgeTest::refused);
        CHECKS.sentence("BAD_ARG = -1: An argument is out of its range.",
            () -> CHECKS.due("BAD_ARG", PairLegaliser.BAD_ARG, -1));
        CHECKS.sentence("FULL = -2: The program has 16 instructions.",
            () -> CHECKS.due("FULL", PairLegaliser.FULL, -2));
        CHECKS.sentence("NO_RUN = 0, DONE = 1, TIRED = 2: How the last run ended.", TermsEdgeTest::endings);
        CHECKS.end("TermsEdgeTest");
    }

    /** The 512th call still answers as due, after calls that each cost the most. */
    private static void lastCalls() {
        PairLegaliser x = new PairLegaliser();
        x.loop(1, 0);
        x.set(1, -1);
        for (int call = 3; call <= 511; call++) {
            CHECKS.due("run() as call " + call, x.run(), PairLegaliser.TIRED);
        }
        CHECKS.due("get(1) as call 512", x.get(1), -1 - 509L * 300);
        PairLegaliser y = new PairLegaliser();
        for (int call = 1; call <= 496; call++) {
            CHECKS.due("call " + call, call % 2 == 1 ? y.append(0, 0, 0, 0) : y.unappend(), 0);
        }
        for (int call = 497; call <= 512; call++) {
            CHECKS.due("append as call " + call, y.append(0, 0, 0, 0), call - 497);
        }
    }

    private static void sixRegisters() {
        for (long v : Edges.LONGS) {
            PairLegaliser x = new PairLegaliser();
            for (int r = 0; r <= 5; r++) {
                x.set(r, v + r);
            }
            for (int r = 0; r <= 5; r++) {
                CHECKS.due("get(" + r + ")", x.get(r), v + r);
            }
        }
        for (int r : Edges.NO_REGISTERS) {
            CHECKS.due("set(" + r + ", 1)", new PairLegaliser().set(r, 1), PairLegaliser.BAD_ARG);
        }
    }

    /** Eight times "times 3, plus 1": the number left tells that all 16 were worked off, in their order. */
    private static void sixteen() {
        PairLegaliser x = new PairLegaliser();
        x.set(1, 3);
        x.set(2, 1);
        for (int i = 0; i < 16; i += 2) {
            CHECKS.due("append", x.append(3, 0, 0, 1), i);
            CHECKS.due("append", x.append(1, 0, 0, 2), i + 1);
        }
        CHECKS.due("append of a 17th", x.append(0, 0, 5, 0), PairLegaliser.FULL);
        CHECKS.due("loop as a 17th", x.loop(1, 0), PairLegaliser.FULL);
        CHECKS.due("size()", x.size(), 16);
        CHECKS.due("run()", x.run(), PairLegaliser.DONE);
        CHECKS.due("worked()", x.worked(), 16);
        CHECKS.due("get(0)", x.get(0), 3280);
    }

    private static void backOrItself() {
        for (int n = 0; n < 16; n++) {
            CHECKS.due("loop to before the first, at " + n, Edges.program(n).loop(0, -1), PairLegaliser.BAD_ARG);
            CHECKS.due("loop to the first, at " + n, Edges.program(n).loop(0, 0), n);
            CHECKS.due("loop to itself, at " + n, Edges.program(n).loop(0, n), n);
            CHECKS.due("loop to behind itself, at " + n, Edges.program(n).loop(0, n + 1), PairLegaliser.BAD_ARG);
        }
    }

    private static void zeroGoesOn() {
        PairLegaliser x = new PairLegaliser();
        for (int i = 0; i < 16; i++) {
            x.loop(i % 6, i % 2 == 0 ? 0 : i);
        }
        CHECKS.due("run() of 16 loops", x.run(), PairLegaliser.DONE);
        CHECKS.due("worked()", x.worked(), 16);
        for (int r = 0; r < 6; r++) {
            CHECKS.due("get(" + r + ")", x.get(r), 0);
        }
    }

    private static void takesOneAway() {
        for (int a = 0; a < 6; a++) {
            countedDown(a, 1, 0, 2);
            countedDown(a, 2, 0, 3);
            countedDown(a, 1L << 32, (1L << 32) - 300, 300);
            countedDown(a, 1L << 31, (1L << 31) - 300, 300);
            countedDown(a, -1, -301, 300);
            countedDown(a, Integer.MIN_VALUE, Integer.MIN_VALUE - 300L, 300);
            countedDown(a, Long.MIN_VALUE, Long.MAX_VALUE - 299, 300);
            countedDown(a, Long.MIN_VALUE + 299, Long.MAX_VALUE, 300);
            countedDown(a, Long.MAX_VALUE, Long.MAX_VALUE - 300, 300);
        }
    }

    private static void countedDown(int a, long from, long to, int worked) {
        PairLegaliser x = new PairLegaliser();
        x.loop(a, 0);
        x.set(a, from);
        x.run();
        CHECKS.due("get(" + a + ") from " + from, x.get(a), to);
        CHECKS.due("worked() from " + from, x.worked(), worked);
        CHECKS.due("the other registers", x.total() - x.get(a), 0);
    }

    /** Once back from number 15 to k: what stands from k on counts twice, what stands before it once. */
    private static void goesToK() {
        for (int k = 0; k <= 15; k++) {
            PairLegaliser x = new PairLegaliser();
            x.set(1, 1);
            x.set(2, 1);
            for (int i = 0; i < 15; i++) {
                x.append(1, 0, 0, 1);
            }
            x.loop(2, k);
            CHECKS.due("run()", x.run(), PairLegaliser.DONE);
            CHECKS.due("get(0) with k " + k, x.get(0), 15 + (15 - k));
            CHECKS.due("worked() with k " + k, x.worked(), 16 + (16 - k));
        }
    }

    private static void fromNumberZero() {
        PairLegaliser x = new PairLegaliser();
        x.set(0, 1000);
        x.set(5, 1);
        x.append(1, 1, 1, 5);
        x.loop(0, 1);
        for (int i = 1; i <= 5; i++) {
            x.run();
            CHECKS.due("get(1) after run " + i, x.get(1), i);
        }
    }

    private static void endIsDone() {
        for (int n = 0; n <= 16; n++) {
            PairLegaliser x = Edges.program(n);
            CHECKS.due("run() of " + n, x.run(), PairLegaliser.DONE);
            CHECKS.due("worked() of " + n, x.worked(), n);
        }
        ranOut(298, PairLegaliser.DONE, 299);
        ranOut(299, PairLegaliser.DONE, 300);
    }

    private static void tiredAt300() {
        ranOut(300, PairLegaliser.TIRED, 300);
        ranOut(301, PairLegaliser.TIRED, 300);
        ranOut(Long.MAX_VALUE, PairLegaliser.TIRED, 300);
        // The 300th is the one before the last: the last is not worked off.
        PairLegaliser x = new PairLegaliser();
        x.set(0, 298);
        x.set(5, 1);
        x.loop(0, 0);
        x.append(1, 1, 1, 5);
        x.append(1, 2, 2, 5);
        CHECKS.due("run() of 301", x.run(), PairLegaliser.TIRED);
        CHECKS.due("the 300th was worked off", x.get(1), 1);
        CHECKS.due("the 301st was not", x.get(2), 0);
    }

    private static void ranOut(long counter, int ending, int worked) {
        PairLegaliser x = new PairLegaliser();
        x.set(3, counter);
        x.loop(3, 0);
        CHECKS.due("run() from " + counter, x.run(), ending);
        CHECKS.due("worked() from " + counter, x.worked(), worked);
        CHECKS.due("get(3) from " + counter, x.get(3), ending == PairLegaliser.DONE ? 0 : counter - 300);
    }

    private static void registersAreKept() {
        PairLegaliser x = new PairLegaliser();
        x.set(0, Long.MAX_VALUE);
        x.set(1, 1);
        x.append(1, 0, 0, 1);
        x.run();
        CHECKS.due("get(0) after a done run", x.get(0), Long.MIN_VALUE);
        x.run();
        CHECKS.due("get(0) after the next", x.get(0), Long.MIN_VALUE + 1);
        x.loop(2, 1);
        x.set(2, 600);
        CHECKS.due("run()", x.run(), PairLegaliser.TIRED);
        CHECKS.due("get(2) after a tired run", x.get(2), 301);
        CHECKS.due("run()", x.run(), PairLegaliser.TIRED);
        CHECKS.due("get(2) after a second one", x.get(2), 2);
        x.clear();
        CHECKS.due("run() of nothing", x.run(), PairLegaliser.DONE);
        CHECKS.due("get(2) after a run of nothing", x.get(2), 2);
        CHECKS.due("get(0) after a run of nothing", x.get(0), Long.MIN_VALUE + 3);
    }

    private static void neverThrows() {
        for (Supplier<PairLegaliser> state : Edges.states()) {
            for (int i : INTS) {
                answers(state, x -> x.append(i, 0, 0, 0));
                answers(state, x -> x.append(15, i, 5, 5));
                answers(state, x -> x.append(0, 5, i, 5));
                answers(state, x -> x.append(7, 5, 5, i));
                answers(state, x -> x.append(i, i, i, i));
                answers(state, x -> x.loop(i, 0));
                answers(state, x -> x.loop(5, i));
                answers(state, x -> x.loop(i, i));
                answers(state, x -> x.set(i, i));
                answers(state, x -> x.get(i));
                answers(state, x -> x.sign(i));
                answers(state, x -> x.ones(i));
            }
            answers(state, PairLegaliser::size);
            answers(state, PairLegaliser::unappend);
            answers(state, PairLegaliser::clear);
            answers(state, PairLegaliser::run);
            answers(state, PairLegaliser::ending);
            answers(state, PairLegaliser::worked);
            answers(state, PairLegaliser::total);
        }
    }

    /** The call, and runs behind it that go back at every loop: a bad instruction let in would throw only there. */
    private static void answers(Supplier<PairLegaliser> state, Consumer<PairLegaliser> call) {
        PairLegaliser x = state.get();
        call.accept(x);
        x.run();
        for (int r = 0; r <= 5; r++) {
            x.set(r, 1);
        }
        x.run();
        CHECKS.due("size() is 0 to 16", x.size() >= 0 && x.size() <= 16);
    }

    private static void refused() {
        for (Supplier<PairLegaliser> state : Edges.states()) {
            int size = state.get().size();
            for (int r : Edges.NO_REGISTERS) {
                changesNothing(state, "set(" + r + ", 9)", PairLegaliser.BAD_ARG, x -> x.set(r, 9));
                changesNothing(state, "append(1, " + r + ", 0, 0)", PairLegaliser.BAD_ARG, x -> x.append(1, r, 0, 0));
                changesNothing(state, "append(1, 0, " + r + ", 0)", PairLegaliser.BAD_ARG, x -> x.append(1, 0, r, 0));
                changesNothing(state, "append(1, 0, 0, " + r + ")", PairLegaliser.BAD_ARG, x -> x.append(1, 0, 0, r));
                changesNothing(state, "loop(" + r + ", 0)", PairLegaliser.BAD_ARG, x -> x.loop(r, 0));
                changesNothing(state, "get(" + r + ")", 0, x -> x.get(r));
                changesNothing(state, "sign(" + r + ")", 0, x -> x.sign(r));
                changesNothing(state, "ones(" + r + ")", 0, x -> x.ones(r));
            }
            for (int op : Edges.NO_OPS) {
                changesNothing(state, "append(" + op + ", 0, 0, 0)", PairLegaliser.BAD_ARG, x -> x.append(op, 0, 0, 0));
            }
            for (int k : new int[] {-1, size + 1, Integer.MIN_VALUE, Integer.MAX_VALUE}) {
                changesNothing(state, "loop(0, " + k + ")", PairLegaliser.BAD_ARG, x -> x.loop(0, k));
            }
            if (size == 0) {
                changesNothing(state, "unappend()", PairLegaliser.BAD_ARG, PairLegaliser::unappend);
            }
            if (size == 16) {
                changesNothing(state, "append(2, 5, 4, 3)", PairLegaliser.FULL, x -> x.append(2, 5, 4, 3));
                changesNothing(state, "loop(0, 0)", PairLegaliser.FULL, x -> x.loop(0, 0));
            }
        }
    }

    private interface Call {
        long on(PairLegaliser x);
    }

    private static void changesNothing(Supplier<PairLegaliser> state, String name, long code, Call call) {
        PairLegaliser x = state.get();
        CHECKS.due(name, call.on(x), code);
        CHECKS.due(name + " changes nothing", Edges.takenApart(x).equals(Edges.takenApart(state.get())));
    }

    private static void endings() {
        CHECKS.due("NO_RUN", PairLegaliser.NO_RUN, 0);
        CHECKS.due("DONE", PairLegaliser.DONE, 1);
        CHECKS.due("TIRED", PairLegaliser.TIRED, 2);
        PairLegaliser x = new PairLegaliser();
        CHECKS.due("ending() before a run", x.ending(), 0);
        x.run();
        CHECKS.due("ending() of a run to the end", x.ending(), 1);
        x.loop(0, 0);
        x.set(0, -1);
        x.run();
        CHECKS.due("ending() of a run without an end", x.ending(), 2);
    }
}
