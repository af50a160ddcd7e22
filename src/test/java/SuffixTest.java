/** Promises 19 and 20: the texts from two positions on, compared. */
public final class SuffixTest {
    public static void main(String[] args) {
        common();
        nextSmaller();
        Check.finish();
    }

    private static void common() {
        RunsFinder x = Check.text("01012010");
        Check.due("common(0, 0)", x.common(0, 0), 8);
        Check.due("common(7, 7)", x.common(7, 7), 1);
        Check.due("common(0, 2)", x.common(0, 2), 2);
        Check.due("common(2, 0)", x.common(2, 0), 2);
        Check.due("common(0, 5), to the end", x.common(0, 5), 3);
        Check.due("common(5, 0), to the end", x.common(5, 0), 3);
        Check.due("common(0, 1)", x.common(0, 1), 0);
        Check.due("common(0, 7)", x.common(0, 7), 1);
        Check.due("common(4, 7)", x.common(4, 7), 0);
        for (int bad : new int[] {Check.MIN, -1, 8, 48, Check.MAX}) {
            Check.due("common(" + bad + ", 0)", x.common(bad, 0), -1);
            Check.due("common(0, " + bad + ")", x.common(0, bad), -1);
            Check.due("common(" + bad + ", " + bad + ")", x.common(bad, bad), -1);
        }
        RunsFinder full = Check.text("1".repeat(48));
        Check.due("common(0, 0) of 48", full.common(0, 0), 48);
        Check.due("common(0, 47) of 48", full.common(0, 47), 1);
        Check.due("common(47, 0) of 48", full.common(47, 0), 1);
        full.pop(1);
        Check.due("common(0, 1) of 47 of 48", full.common(0, 1), 46);
    }

    private static void nextSmaller() {
        dueNextSmaller("0", 1);
        dueNextSmaller("00", 1, 2);
        dueNextSmaller("01", 2, 2);
        dueNextSmaller("10", 1, 2);
        dueNextSmaller("0010", 3, 3, 3, 4);
        dueNextSmaller("0123", 4, 4, 4, 4);
        dueNextSmaller("3210", 1, 2, 3, 4);
        dueNextSmaller("0102", 4, 2, 4, 4);
        dueNextSmaller("02010", 2, 2, 4, 4, 5);
        dueNextSmaller("0101", 2, 2, 4, 4);
        dueNextSmaller("01012", 5, 2, 5, 5, 5);
        RunsFinder x = Check.text("010");
        for (int bad : new int[] {Check.MIN, -1, 3, 48, Check.MAX}) {
            Check.due("nextSmaller(" + bad + ") of 010", x.nextSmaller(bad), -1);
        }
        RunsFinder full = Check.text("1".repeat(48));
        Check.due("nextSmaller(0) of 48", full.nextSmaller(0), 1);
        Check.due("nextSmaller(47) of 48", full.nextSmaller(47), 48);
    }

    private static void dueNextSmaller(String digits, int... want) {
        RunsFinder x = Check.text(digits);
        for (int i = 0; i < want.length; i++) {
            Check.due("nextSmaller(" + i + ") of " + digits, x.nextSmaller(i), want[i]);
        }
    }
}
