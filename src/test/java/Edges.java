import java.util.List;
import java.util.function.Supplier;

/** Objects and arguments at the edges of what the document allows, for the tests of its boundary sentences. */
final class Edges {
    /** Not a register: next to the range, far from it, and such that its lowest digits alone would be one. */
    static final int[] NO_REGISTERS = {
        -1, 6, -2, 7, -6, 16, 64, 256, 65536, Integer.MIN_VALUE, Integer.MIN_VALUE + 1, Integer.MAX_VALUE};
    static final int[] NO_OPS = {
        -1, 16, -2, 17, -16, 32, 64, 256, 65536, Integer.MIN_VALUE, Integer.MIN_VALUE + 1, Integer.MAX_VALUE};
    static final long[] LONGS = {
        0, 1, -1, Integer.MAX_VALUE, Integer.MIN_VALUE, 1L << 31, 0xFFFFFFFFL, 1L << 32, -1L << 32,
        Long.MAX_VALUE, Long.MIN_VALUE};

    private Edges() {
    }

    /** n instructions, of those whose result tells most of op, d, a and b, so that a lost or replaced one shows. */
    static PairLegaliser program(int n) {
        int[] ops = {3, 1, 2, 6};
        PairLegaliser x = new PairLegaliser();
        for (int i = 0; i < n; i++) {
            x.append(ops[i % 4], i % 6, (i + 2) % 6, (i + 3) % 6);
        }
        return x;
    }

    /** The last loop has a register of its own, which no other loop has brought to 0. */
    static PairLegaliser fullOfLoops() {
        PairLegaliser x = new PairLegaliser();
        for (int i = 0; i < 16; i++) {
            x.loop(i < 15 ? i % 5 : 5, i / 2);
        }
        return x;
    }

    static PairLegaliser afterARun(PairLegaliser x, long counter) {
        x.set(0, counter);
        x.set(4, -5);
        x.run();
        return x;
    }

    /** Every kind of state: empty, begun, one short of full, full; before a run, after a done and a tired one. */
    static List<Supplier<PairLegaliser>> states() {
        return List.of(
            PairLegaliser::new,
            () -> program(1),
            () -> program(15),
            () -> program(16),
            Edges::fullOfLoops,
            () -> afterARun(new PairLegaliser(), 3),
            () -> afterARun(program(5), 3),
            () -> afterARun(program(16), Long.MIN_VALUE),
            () -> afterARun(fullOfLoops(), 3),
            () -> afterARun(fullOfLoops(), Long.MIN_VALUE));
    }

    /** The whole state, the program's instructions by what they do; nothing of the program is left after it. */
    static String takenApart(PairLegaliser x) {
        StringBuilder all = new StringBuilder(Checks.seen(x));
        // Small, so that the runs of loops reach their end.
        long[] values = {3, 1, 2, 7, 5, 6};
        for (int left = x.size(); left > 0; left--) {
            for (int r = 0; r < 6; r++) {
                x.set(r, values[r]);
            }
            all.append(" | ").append(x.run()).append(' ').append(x.worked());
            for (int r = 0; r < 6; r++) {
                all.append(' ').append(x.get(r));
            }
            all.append(' ').append(x.unappend());
        }
        return all.toString();
    }

    /** What register 1 holds after one instruction over a in register 3 and b in register 5. */
    static long worked(int op, long a, long b) {
        PairLegaliser x = new PairLegaliser();
        x.set(1, 0x1111111111111111L);
        x.set(3, a);
        x.set(5, b);
        x.append(op, 1, 3, 5);
        x.run();
        return x.get(1);
    }
}
