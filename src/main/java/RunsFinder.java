/**
 * Repetitions in a short text over four symbols.
 *
 * Only the text is kept. Every answer is worked out anew from it, so that no question can change
 * anything and no change can leave an answer behind that is out of date.
 */
public final class RunsFinder {
    private static final int MOST_SYMBOLS = 48;
    private static final int KINDS = 4;

    /**
     * A run is twice as long as its period at least, so no period of a run is above this. A start i
     * and a period p make the slot i * MOST_PERIOD + p - 1: rising slots go through the starts and,
     * within a start, through the periods, which is the order in which the runs are numbered.
     */
    private static final int MOST_PERIOD = MOST_SYMBOLS / 2;

    private final int[] text = new int[MOST_SYMBOLS];
    private int size;

    public RunsFinder() {
        size = 0;
    }

    public int push(int symbol) {
        if (!isSymbol(symbol)) {
            return -1;
        }
        if (size >= MOST_SYMBOLS) {
            return -2;
        }
        text[size] = symbol;
        size++;
        return size;
    }

    public int pop(int count) {
        if (count < 0 || count > size) {
            return -1;
        }
        size -= count;
        return size;
    }

    public int repeat(int from, int count) {
        if (!isGood(from)) {
            return -1;
        }
        if (count < 1 || count > MOST_SYMBOLS) {
            return -2;
        }
        if (size + count > MOST_SYMBOLS) {
            return -3;
        }
        // Rising order: a symbol that the piece takes from the new part has been put by then.
        for (int k = 0; k < count; k++) {
            text[size + k] = text[from + k];
        }
        size += count;
        return size;
    }

    public int set(int at, int symbol) {
        if (!isGood(at)) {
            return -1;
        }
        if (!isSymbol(symbol)) {
            return -2;
        }
        int before = text[at];
        text[at] = symbol;
        return before;
    }

    public int reverse() {
        for (int left = 0; left < size / 2; left++) {
            int right = size - 1 - left;
            int kept = text[left];
            text[left] = text[right];
            text[right] = kept;
        }
        return size;
    }

    public int length() {
        return size;
    }

    public int symbol(int at) {
        return isGood(at) ? text[at] : -1;
    }

    public int runs() {
        int count = 0;
        for (int slot = 0; slot < size * MOST_PERIOD; slot++) {
            if (lastOfRun(slot) >= 0) {
                count++;
            }
        }
        return count;
    }

    public int start(int run) {
        int slot = slotOfRun(run);
        return slot < 0 ? -1 : startOfSlot(slot);
    }

    public int end(int run) {
        int slot = slotOfRun(run);
        return slot < 0 ? -1 : lastOfRun(slot);
    }

    public int period(int run) {
        int slot = slotOfRun(run);
        return slot < 0 ? -1 : periodOfSlot(slot);
    }

    public int runsAt(int at) {
        if (!isGood(at)) {
            return -1;
        }
        int count = 0;
        for (int slot = 0; slot < size * MOST_PERIOD; slot++) {
            // A slot without a run has the last position -1, which is below every good position.
            if (startOfSlot(slot) <= at && at <= lastOfRun(slot)) {
                count++;
            }
        }
        return count;
    }

    public int squaresFrom(int at) {
        if (!isGood(at)) {
            return -1;
        }
        int count = 0;
        for (int p = 1; p <= MOST_PERIOD; p++) {
            if (isSquare(at, p) && leastPeriod(at, at + 2 * p - 1) == p) {
                count++;
            }
        }
        return count;
    }

    public int squares() {
        int count = 0;
        for (int i = 0; i < size; i++) {
            for (int p = 1; p <= MOST_PERIOD; p++) {
                if (isSquare(i, p)) {
                    count++;
                }
            }
        }
        return count;
    }

    public int periodOf(int i, int j) {
        if (!isGood(i) || !isGood(j) || i > j) {
            return -1;
        }
        int p = leastPeriod(i, j);
        return 2 * p <= j - i + 1 ? p : 0;
    }

    public int longest() {
        int most = 0;
        for (int slot = 0; slot < size * MOST_PERIOD; slot++) {
            int extent = lengthOfRun(slot);
            if (extent > most) {
                most = extent;
            }
        }
        return most;
    }

    public int power() {
        int most = 0;
        for (int slot = 0; slot < size * MOST_PERIOD; slot++) {
            int times = lengthOfRun(slot) / periodOfSlot(slot);
            if (times > most) {
                most = times;
            }
        }
        return most;
    }

    public int common(int i, int j) {
        return isGood(i) && isGood(j) ? sharedBeginning(i, j) : -1;
    }

    public int nextSmaller(int i) {
        if (!isGood(i)) {
            return -1;
        }
        for (int k = i + 1; k < size; k++) {
            if (laterComesBefore(k, i)) {
                return k;
            }
        }
        return size;
    }

    private boolean isSymbol(int symbol) {
        return symbol >= 0 && symbol < KINDS;
    }

    private boolean isGood(int at) {
        return at >= 0 && at < size;
    }

    private int startOfSlot(int slot) {
        return slot / MOST_PERIOD;
    }

    private int periodOfSlot(int slot) {
        return slot % MOST_PERIOD + 1;
    }

    /** The slot of the run with this number, -1 if the number is not good. */
    private int slotOfRun(int run) {
        int passed = 0;
        for (int slot = 0; slot < size * MOST_PERIOD; slot++) {
            if (lastOfRun(slot) >= 0) {
                if (passed == run) {
                    return slot;
                }
                passed++;
            }
        }
        return -1;
    }

    /** The last position of the run with the start and period of the slot, -1 if there is none. */
    private int lastOfRun(int slot) {
        int i = startOfSlot(slot);
        int p = periodOfSlot(slot);
        if (!isSquare(i, p)) {
            return -1;
        }
        if (i > 0 && text[i - 1] == text[i - 1 + p]) {
            return -1;
        }
        // The period holds just as long as the text from i agrees with itself p positions on.
        int last = i + p + sharedBeginning(i, i + p) - 1;
        return leastPeriod(i, last) == p ? last : -1;
    }

    /** The length of the run in the slot, 0 if there is none. */
    private int lengthOfRun(int slot) {
        int last = lastOfRun(slot);
        return last < 0 ? 0 : last - startOfSlot(slot) + 1;
    }

    /** Whether a square of length 2 * p begins at the good position i. */
    private boolean isSquare(int i, int p) {
        return i + 2 * p <= size && sharedBeginning(i, i + p) >= p;
    }

    /** The least period of the piece (i, j), both good and i <= j. */
    private int leastPeriod(int i, int j) {
        int extent = j - i + 1;
        for (int p = 1; p < extent; p++) {
            if (sharedBeginning(i, i + p) >= extent - p) {
                return p;
            }
        }
        return extent;
    }

    /** How many symbols the text from i on and the text from j on, both good, begin with alike. */
    private int sharedBeginning(int i, int j) {
        int later = i > j ? i : j;
        int most = size - later;
        for (int k = 0; k < most; k++) {
            if (text[i + k] != text[j + k]) {
                return k;
            }
        }
        return most;
    }

    /** Whether the text from k on comes before the text from i on, both good and k > i. */
    private boolean laterComesBefore(int k, int i) {
        int alike = sharedBeginning(i, k);
        // The text from k on is the shorter one: wholly alike, it is a beginning of the other.
        return k + alike >= size || text[k + alike] < text[i + alike];
    }
}
