/** Promises 14 to 16: squares and the periods of pieces. */
public final class SquaresTest {
    public static void main(String[] args) {
        squaresFrom();
        squares();
        periodOf();
        periodOfRefused();
        Check.finish();
    }

    private static void squaresFrom() {
        dueSquaresFrom("0", 0);
        dueSquaresFrom("00", 1, 0);
        dueSquaresFrom("0000", 1, 1, 1, 0);
        dueSquaresFrom("01010101", 1, 1, 1, 1, 1, 0, 0, 0);
        dueSquaresFrom("001001", 2, 0, 0, 1, 0, 0);
        dueSquaresFrom("2001001003", 0, 2, 1, 1, 1, 0, 0, 1, 0, 0);
        RunsFinder halves = Check.text("010203010230120301230102");
        halves.repeat(0, 24);
        Check.due("squaresFrom(0) of a whole text that is a square", halves.squaresFrom(0), 1);
        halves.set(47, 0);
        Check.due("squaresFrom(0) when its last symbol differs", halves.squaresFrom(0), 0);
        for (int at : new int[] {Check.MIN, -1, 48, Check.MAX}) {
            Check.due("squaresFrom(" + at + ") of 48", halves.squaresFrom(at), -1);
        }
        Check.due("squaresFrom(2) of 00", Check.text("00").squaresFrom(2), -1);
    }

    private static void squares() {
        dueSquares("", 0);
        dueSquares("0", 0);
        dueSquares("01", 0);
        dueSquares("010", 0);
        dueSquares("11", 1);
        dueSquares("0000", 4);
        dueSquares("0101", 1);
        dueSquares("01010101", 6);
        dueSquares("001001", 3);
        dueSquares("2001001003", 6);
        dueSquares("3".repeat(48), 576);
    }

    private static void periodOf() {
        duePeriodOf("0", 0, 0, 0);
        duePeriodOf("01", 0, 1, 0);
        duePeriodOf("00", 0, 1, 1);
        duePeriodOf("000", 0, 2, 1);
        duePeriodOf("010", 0, 2, 0);
        duePeriodOf("0101", 0, 3, 2);
        duePeriodOf("01010101", 0, 7, 2);
        duePeriodOf("01010101", 1, 5, 2);
        duePeriodOf("01010101", 1, 3, 0);
        duePeriodOf("012012", 0, 4, 0);
        duePeriodOf("012012", 0, 5, 3);
        duePeriodOf("3012012013", 1, 8, 3);
        duePeriodOf("3012012013", 1, 9, 0);
        duePeriodOf("3012012013", 0, 8, 0);
        duePeriodOf("0010010", 0, 1, 1);
        duePeriodOf("0010010", 0, 6, 3);
        duePeriodOf("2".repeat(48), 0, 47, 1);
        duePeriodOf("2".repeat(48), 47, 47, 0);
    }

    private static void periodOfRefused() {
        RunsFinder x = Check.text("0000");
        for (int bad : new int[] {Check.MIN, -1, 4, 48, Check.MAX}) {
            Check.due("periodOf(" + bad + ", 3)", x.periodOf(bad, 3), -1);
            Check.due("periodOf(0, " + bad + ")", x.periodOf(0, bad), -1);
            Check.due("periodOf(" + bad + ", " + bad + ")", x.periodOf(bad, bad), -1);
        }
        Check.due("periodOf(2, 1)", x.periodOf(2, 1), -1);
        Check.due("periodOf(3, 0)", x.periodOf(3, 0), -1);
        Check.due("periodOf(1, 2)", x.periodOf(1, 2), 1);
    }

    private static void dueSquaresFrom(String digits, int... want) {
        RunsFinder x = Check.text(digits);
        for (int at = 0; at < want.length; at++) {
            Check.due("squaresFrom(" + at + ") of " + digits, x.squaresFrom(at), want[at]);
        }
    }

    private static void dueSquares(String digits, int want) {
        Check.due("squares() of " + digits, Check.text(digits).squares(), want);
    }

    private static void duePeriodOf(String digits, int i, int j, int want) {
        Check.due("periodOf(" + i + ", " + j + ") of " + digits, Check.text(digits).periodOf(i, j), want);
    }
}
