import java.math.BigInteger;
import java.util.ArrayList;
import java.util.List;

/** The document told a second time, over numbers of any length and lists, to hold the program against. */
final class Model {
    private static final BigInteger WHOLE = BigInteger.ONE.shiftLeft(64);
    private static final BigInteger HALF = BigInteger.ONE.shiftLeft(32);

    final long[] registers = new long[6];
    final List<int[]> program = new ArrayList<>();
    int ending = 0;
    int worked = 0;

    static long result(int op, long a, long b) {
        BigInteger x = BigInteger.valueOf(a);
        BigInteger y = BigInteger.valueOf(b);
        int places = y.mod(BigInteger.valueOf(64)).intValue();
        BigInteger low = x.mod(HALF);
        return switch (op) {
            case 0 -> a;
            case 1 -> x.add(y).longValue();
            case 2 -> x.subtract(y).longValue();
            case 3 -> x.multiply(y).longValue();
            case 4 -> x.and(y).longValue();
            case 5 -> x.or(y).longValue();
            case 6 -> x.xor(y).longValue();
            case 7 -> x.multiply(BigInteger.TWO.pow(places)).longValue();
            case 8 -> x.shiftRight(places).longValue();
            case 9 -> x.mod(WHOLE).shiftRight(places).longValue();
            case 10 -> x.compareTo(y) < 0 ? 1 : 0;
            case 11 -> x.mod(WHOLE).compareTo(y.mod(WHOLE)) < 0 ? 1 : 0;
            case 12 -> x.equals(y) ? 1 : 0;
            case 13 -> (low.testBit(31) ? low.subtract(HALF) : low).longValue();
            case 14 -> low.longValue();
            case 15 -> x.subtract(low).divide(HALF).longValue();
            default -> throw new IllegalArgumentException("op " + op);
        };
    }

    private static boolean outside(int r) {
        return r < 0 || r > 5;
    }

    private int add(int... instruction) {
        if (program.size() == 16) {
            return -2;
        }
        program.add(instruction);
        return program.size() - 1;
    }

    int append(int op, int d, int a, int b) {
        return op < 0 || op > 15 || outside(d) || outside(a) || outside(b) ? -1 : add(op, d, a, b);
    }

    int loop(int a, int k) {
        return outside(a) || k < 0 || k > program.size() ? -1 : add(16, a, k);
    }

    int unappend() {
        if (program.isEmpty()) {
            return -1;
        }
        program.remove(program.size() - 1);
        return program.size();
    }

    int set(int r, long v) {
        if (outside(r)) {
            return -1;
        }
        registers[r] = v;
        return 0;
    }

    long get(int r) {
        return outside(r) ? 0 : registers[r];
    }

    long total() {
        BigInteger sum = BigInteger.ZERO;
        for (long v : registers) {
            sum = sum.add(BigInteger.valueOf(v));
        }
        return sum.longValue();
    }

    int run() {
        worked = 0;
        int next = 0;
        while (next != program.size()) {
            if (worked == 300) {
                return ending = 2;
            }
            worked++;
            int[] i = program.get(next);
            if (i[0] != 16) {
                registers[i[1]] = result(i[0], registers[i[2]], registers[i[3]]);
                next++;
            } else if (registers[i[1]] == 0) {
                next++;
            } else {
                registers[i[1]] = result(2, registers[i[1]], 1);
                next = i[2];
            }
        }
        return ending = 1;
    }
}
