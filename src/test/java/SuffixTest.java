/**
 * Promises 19 and 20: the texts from two positions on, compared. Each boundary sentence of theirs
 * has a method.
 */
public final class SuffixTest {
    public static void main(String[] args) {
        common();
        commonWithItself();
        commonUpToTheEnd();
        commonAtBadPosition();
        nextSmaller();
        nextSmallerIsTheLeast();
        nextSmallerIsABeginning();
        nextSmallerOfNone();
        nextSmallerAtBadPosition();
        Check.finish();
    }

    private static void common() {
        RunsFinder x = Check.text("01012010");
        Check.due("common(0, 2)", x.common(0, 2), 2);
        Check.due("common(2, 0)", x.common(2, 0), 2);
        Check.due("common(0, 1), none", x.common(0, 1), 0);
        Check.due("common(4, 7), none", x.common(4, 7), 0);
    }

    /** Promise 19: i and j may be the same position, the first and the last too. */
    private static void commonWithItself() {
        Check.due("common(0, 0) of 2", Check.text("2").common(0, 0), 1);
        RunsFinder x = Check.text("01012010");
        Check.due("common(0, 0)", x.common(0, 0), 8);
        Check.due("common(5, 5)", x.common(5, 5), 3);
        Check.due("common(7, 7)", x.common(7, 7), 1);
        RunsFinder full = Check.text("0123".repeat(12));
        Check.due("common(0, 0) of 48", full.common(0, 0), 48);
        Check.due("common(47, 47) of 48", full.common(47, 47), 1);
    }

    /** Promise 19: a common beginning ends where the text does, and counts nothing popped. */
    private static void commonUpToTheEnd() {
        RunsFinder x = Check.text("01012010");
        Check.due("common(0, 5), to the end", x.common(0, 5), 3);
        Check.due("common(5, 0), to the end", x.common(5, 0), 3);
        Check.due("common(0, 7), the last symbol", x.common(0, 7), 1);
        RunsFinder full = Check.text("1".repeat(48));
        Check.due("common(0, 1) of 48", full.common(0, 1), 47);
        Check.due("common(0, 47) of 48", full.common(0, 47), 1);
        Check.due("common(47, 0) of 48", full.common(47, 0), 1);
        full.pop(1);
        Check.due("common(0, 1) of 47 of 48", full.common(0, 1), 46);
    }

    /** Promise 19: "-1 if i or j is not good". */
    private static void commonAtBadPosition() {
        for (String digits : new String[] {"", "0", "010", "1".repeat(48)}) {
            RunsFinder x = Check.text(digits);
            for (int bad : Check.outside(0, digits.length() - 1)) {
                Check.due("common(" + bad + ", 0) of " + digits, x.common(bad, 0), -1);
                Check.due("common(0, " + bad + ") of " + digits, x.common(0, bad), -1);
                Check.due("common(" + bad + ", " + bad + ") of " + digits, x.common(bad, bad), -1);
                Check.due("common(MIN, " + bad + ") of " + digits, x.common(Check.MIN, bad), -1);
                Check.due("common(MAX, " + bad + ") of " + digits, x.common(Check.MAX, bad), -1);
            }
        }
    }

    private static void nextSmaller() {
        dueNextSmaller("10", 1, 2);
        dueNextSmaller("3210", 1, 2, 3, 4);
        dueNextSmaller("0102", 4, 2, 4, 4);
        dueNextSmaller("0102010", 4, 2, 4, 4, 6, 6, 7);
    }

    /** Promise 20: "The least position k > i", though a later text may come before it. */
    private static void nextSmallerIsTheLeast() {
        dueNextSmaller("20100", 1, 3, 3, 4, 5);
        dueNextSmaller("3201", 1, 2, 4, 4);
        dueNextSmaller("02010", 2, 2, 4, 4, 5);
    }

    /** Promise 20: "a text that is a beginning of the other comes before it". */
    private static void nextSmallerIsABeginning() {
        dueNextSmaller("00", 1, 2);
        dueNextSmaller("010", 2, 2, 3);
        dueNextSmaller("0101", 2, 2, 4, 4);
        dueNextSmaller("01012", 5, 2, 5, 5, 5);
        dueNextSmaller("0010", 3, 3, 3, 4);
        RunsFinder full = Check.text("1".repeat(48));
        Check.due("nextSmaller(0) of 48", full.nextSmaller(0), 1);
        Check.due("nextSmaller(46) of 48", full.nextSmaller(46), 47);
        RunsFinder popped = Check.text("0101");
        popped.pop(1);
        Check.due("nextSmaller(0) of 010 and 1 popped", popped.nextSmaller(0), 2);
    }

    /** Promise 20: "length() if there is none", at the last position always. */
    private static void nextSmallerOfNone() {
        dueNextSmaller("0", 1);
        dueNextSmaller("3", 1);
        dueNextSmaller("01", 2, 2);
        dueNextSmaller("0123", 4, 4, 4, 4);
        RunsFinder full = Check.text("0" + "1".repeat(47));
        Check.due("nextSmaller(0) of 48", full.nextSmaller(0), 48);
        Check.due("nextSmaller(47) of 48", full.nextSmaller(47), 48);
        RunsFinder popped = Check.text("120");
        popped.pop(1);
        Check.due("nextSmaller(0) of 12 and 0 popped", popped.nextSmaller(0), 2);
        Check.due("nextSmaller(1) of 12 and 0 popped", popped.nextSmaller(1), 2);
    }

    /** Promise 20: "-1 if i is not good". */
    private static void nextSmallerAtBadPosition() {
        for (String digits : new String[] {"", "0", "010", "1".repeat(48)}) {
            RunsFinder x = Check.text(digits);
            for (int bad : Check.outside(0, digits.length() - 1)) {
                Check.due("nextSmaller(" + bad + ") of " + digits, x.nextSmaller(bad), -1);
            }
        }
    }

    private static void dueNextSmaller(String digits, int... want) {
        RunsFinder x = Check.text(digits);
        for (int i = 0; i < want.length; i++) {
            Check.due("nextSmaller(" + i + ") of " + digits, x.nextSmaller(i), want[i]);
        }
    }
}
