public final class PairLegaliser {
    public static final int BAD_ARG = -1;
    public static final int FULL = -2;
    public static final int NO_RUN = 0;
    public static final int DONE = 1;
    public static final int TIRED = 2;

    private static final int REGISTERS = 6;
    private static final int CAPACITY = 16;
    private static final int STEP_LIMIT = 300;
    private static final int DIGITS = 64;

    private static final int MOVE = 0;
    private static final int ADD = 1;
    private static final int SUB = 2;
    private static final int MUL = 3;
    private static final int AND = 4;
    private static final int OR = 5;
    private static final int XOR = 6;
    private static final int SHL = 7;
    private static final int SHR = 8;
    private static final int USHR = 9;
    private static final int LESS = 10;
    private static final int BELOW = 11;
    private static final int EQUAL = 12;
    private static final int LOW = 13;
    private static final int ULOW = 14;
    private static final int HIGH = 15;
    private static final int LOOP = 16;

    private static final long TOP_DIGIT = 0x8000000000000000L;
    private static final long LOW_DIGITS = 0xFFFFFFFFL;

    private final long[] registers = new long[REGISTERS];

    private final int[] ops = new int[CAPACITY];
    private final int[] changed = new int[CAPACITY];
    private final int[] firsts = new int[CAPACITY];
    // A loop has no second register, so its k is kept here.
    private final int[] seconds = new int[CAPACITY];
    private int count = 0;

    private int lastEnding = NO_RUN;
    private int lastWorked = 0;

    public PairLegaliser() {
    }

    public int append(int op, int d, int a, int b) {
        if (op < MOVE || op > HIGH) {
            return BAD_ARG;
        }
        if (!isRegister(d) || !isRegister(a) || !isRegister(b)) {
            return BAD_ARG;
        }
        return place(op, d, a, b);
    }

    public int loop(int a, int k) {
        if (!isRegister(a) || k < 0 || k > count) {
            return BAD_ARG;
        }
        return place(LOOP, a, a, k);
    }

    public int size() {
        return count;
    }

    public int unappend() {
        if (count == 0) {
            return BAD_ARG;
        }
        count--;
        return count;
    }

    public void clear() {
        count = 0;
    }

    public int set(int r, long v) {
        if (!isRegister(r)) {
            return BAD_ARG;
        }
        registers[r] = v;
        return 0;
    }

    public long get(int r) {
        return isRegister(r) ? registers[r] : 0L;
    }

    public int sign(int r) {
        if (!isRegister(r) || registers[r] == 0L) {
            return 0;
        }
        return registers[r] < 0L ? -1 : 1;
    }

    public int run() {
        int at = 0;
        int steps = 0;
        while (steps < STEP_LIMIT && at < count) {
            at = workOff(at);
            steps++;
        }
        lastWorked = steps;
        // Reaching the end with the last allowed step still counts as done.
        lastEnding = at < count ? TIRED : DONE;
        return lastEnding;
    }

    public int ending() {
        return lastEnding;
    }

    public int worked() {
        return lastWorked;
    }

    public int ones(int r) {
        if (!isRegister(r)) {
            return 0;
        }
        int found = 0;
        for (int digit = 0; digit < DIGITS; digit++) {
            found += (int) ((registers[r] >>> digit) & 1L);
        }
        return found;
    }

    public long total() {
        long sum = 0L;
        for (int r = 0; r < REGISTERS; r++) {
            sum += registers[r];
        }
        return sum;
    }

    private static boolean isRegister(int r) {
        return r >= 0 && r < REGISTERS;
    }

    private int place(int op, int d, int a, int b) {
        if (count >= CAPACITY) {
            return FULL;
        }
        ops[count] = op;
        changed[count] = d;
        firsts[count] = a;
        seconds[count] = b;
        count++;
        return count - 1;
    }

    private int workOff(int at) {
        if (ops[at] == LOOP) {
            return workOffLoop(at);
        }
        long first = registers[firsts[at]];
        long second = registers[seconds[at]];
        registers[changed[at]] = result(ops[at], first, second);
        return at + 1;
    }

    private int workOffLoop(int at) {
        int counter = changed[at];
        if (registers[counter] == 0L) {
            return at + 1;
        }
        registers[counter]--;
        return seconds[at];
    }

    private static long result(int op, long a, long b) {
        switch (op) {
            case ADD:
                return a + b;
            case SUB:
                return a - b;
            case MUL:
                return a * b;
            case AND:
                return a & b;
            case OR:
                return a | b;
            case XOR:
                return a ^ b;
            case SHL:
                return a << (b & 63L);
            case SHR:
                return a >> (b & 63L);
            case USHR:
                return a >>> (b & 63L);
            case LESS:
                return a < b ? 1L : 0L;
            case BELOW:
                // Flipping the top digit of both turns the unsigned order into the signed one.
                return (a ^ TOP_DIGIT) < (b ^ TOP_DIGIT) ? 1L : 0L;
            case EQUAL:
                return a == b ? 1L : 0L;
            case LOW:
                return (long) (int) a;
            case ULOW:
                return a & LOW_DIGITS;
            case HIGH:
                return a >> 32;
            default:
                // Only move is left: append lets no other number in.
                return a;
        }
    }
}
