/**
 * Promises 14 to 16: squares and the periods of pieces. Each boundary sentence of theirs has a
 * method.
 */
public final class SquaresTest {
    private static final String NO_SQUARE_FROM_0 = "010203010230120301230102";

    public static void main(String[] args) {
        squaresFrom();
        squaresFromPrimitiveAlone();
        squaresFromUpToTheEnd();
        squaresFromBadPosition();
        squares();
        squaresPrimitiveOrNot();
        squaresUpToTheEnd();
        periodOfHalf();
        periodOfAboveHalf();
        periodOfOneSymbol();
        periodOfInsideAlone();
        periodOfBadPosition();
        periodOfTurnedPiece();
        Check.finish();
    }

    private static void squaresFrom() {
        dueSquaresFrom("0", 0);
        dueSquaresFrom("01", 0, 0);
        dueSquaresFrom("001001", 2, 0, 0, 1, 0, 0);
        dueSquaresFrom("2001001003", 0, 2, 1, 1, 1, 0, 0, 1, 0, 0);
        dueSquaresFrom("00100120010012", 3, 0, 0, 1, 0, 0, 0, 2, 0, 0, 1, 0, 0, 0);
    }

    /** Promise 14 and the Terms: "it is PRIMITIVE if p is its least period". */
    private static void squaresFromPrimitiveAlone() {
        dueSquaresFrom("0000", 1, 1, 1, 0);
        dueSquaresFrom("01010101", 1, 1, 1, 1, 1, 0, 0, 0);
        RunsFinder full = Check.text("3".repeat(48));
        Check.due("squaresFrom(0) of 48 alike", full.squaresFrom(0), 1);
        Check.due("squaresFrom(46) of 48 alike", full.squaresFrom(46), 1);
        Check.due("squaresFrom(47) of 48 alike", full.squaresFrom(47), 0);
    }

    /** Promise 14: a square may end at the last position, and not beyond it. */
    private static void squaresFromUpToTheEnd() {
        dueSquaresFrom("00", 1, 0);
        dueSquaresFrom("0101", 1, 0, 0, 0);
        dueSquaresFrom("010", 0, 0, 0);
        RunsFinder popped = Check.text("0101");
        popped.pop(1);
        Check.due("squaresFrom(0) when its last symbol was popped", popped.squaresFrom(0), 0);

        RunsFinder halves = Check.text(NO_SQUARE_FROM_0);
        halves.repeat(0, 24);
        Check.due("squaresFrom(0) of a text of 48 that is a square", halves.squaresFrom(0), 1);
        halves.set(47, 0);
        Check.due("squaresFrom(0) when its last symbol differs", halves.squaresFrom(0), 0);
    }

    /** Promise 14: "-1 if at is not good". */
    private static void squaresFromBadPosition() {
        for (String digits : new String[] {"", "0", "00", "0101", "3".repeat(48)}) {
            RunsFinder x = Check.text(digits);
            for (int at : Check.outside(0, digits.length() - 1)) {
                Check.due("squaresFrom(" + at + ") of " + digits, x.squaresFrom(at), -1);
            }
        }
    }

    /** Promise 15: a text that is too short or without repetition has no square. */
    private static void squares() {
        dueSquares("", 0);
        dueSquares("0", 0);
        dueSquares("01", 0);
        dueSquares("010", 0);
        dueSquares("11", 1);
        dueSquares("001001", 3);
        dueSquares("2001001003", 6);
    }

    /** Promise 15: "primitive or not", "counted by where they begin and how long they are". */
    private static void squaresPrimitiveOrNot() {
        dueSquares("000", 2);
        dueSquares("0000", 4);
        dueSquares("0101", 1);
        dueSquares("01010101", 6);
        dueSquares("00100", 2);
        dueSquares("3".repeat(47), 552);
        dueSquares("3".repeat(48), 576);
    }

    /** Promise 15: a square may begin at position 0 and end at the last one, and not beyond it. */
    private static void squaresUpToTheEnd() {
        dueSquares("100", 1);
        dueSquares("001", 1);
        RunsFinder popped = Check.text("0101");
        popped.pop(1);
        Check.due("squares() when the last symbol of the one was popped", popped.squares(), 0);

        RunsFinder halves = Check.text("01".repeat(11) + "03");
        halves.repeat(0, 24);
        int whole = halves.squares();
        halves.set(47, 2);
        Check.due("squares() without the one of length 48", halves.squares(), whole - 1);
    }

    /** Promise 16: "if it is at most half of its length", just reached. */
    private static void periodOfHalf() {
        duePeriodOf("00", 0, 1, 1);
        duePeriodOf("000", 0, 2, 1);
        duePeriodOf("0101", 0, 3, 2);
        duePeriodOf("01010", 0, 4, 2);
        duePeriodOf("012012", 0, 5, 3);
        duePeriodOf("01010101", 0, 7, 2);
        duePeriodOf("2".repeat(48), 0, 47, 1);
        RunsFinder halves = Check.text(NO_SQUARE_FROM_0);
        halves.repeat(0, 24);
        Check.due("periodOf(0, 47) of two halves", halves.periodOf(0, 47), 24);
        Check.due("periodOf(0, 46) of two halves", halves.periodOf(0, 46), 0);
        Check.due("periodOf(1, 47) of two halves", halves.periodOf(1, 47), 0);
    }

    /** Promise 16: "0 if it is greater than that", by as little as can be. */
    private static void periodOfAboveHalf() {
        duePeriodOf("01", 0, 1, 0);
        duePeriodOf("010", 0, 2, 0);
        duePeriodOf("01010101", 1, 3, 0);
        duePeriodOf("01201", 0, 4, 0);
        duePeriodOf("0120", 0, 3, 0);
        duePeriodOf("0123012", 0, 6, 0);
        duePeriodOf("0123", 0, 3, 0);
    }

    /** Promise 16 and the Terms: the least period of one symbol is 1, more than half of 1. */
    private static void periodOfOneSymbol() {
        duePeriodOf("0", 0, 0, 0);
        duePeriodOf("000", 1, 1, 0);
        duePeriodOf("2".repeat(48), 0, 0, 0);
        duePeriodOf("2".repeat(48), 47, 47, 0);
    }

    /** Promise 16: what stands before the piece or after it is not asked. */
    private static void periodOfInsideAlone() {
        duePeriodOf("01010101", 1, 5, 2);
        duePeriodOf("012012", 0, 4, 0);
        duePeriodOf("3012012013", 1, 8, 3);
        duePeriodOf("3012012013", 1, 9, 0);
        duePeriodOf("3012012013", 0, 8, 0);
        duePeriodOf("0010010", 0, 1, 1);
        duePeriodOf("0010010", 0, 6, 3);
    }

    /** Promise 16: "-1 if i or j is not good". */
    private static void periodOfBadPosition() {
        for (String digits : new String[] {"", "0", "0000", "2".repeat(48)}) {
            RunsFinder x = Check.text(digits);
            int last = digits.length() - 1;
            for (int bad : Check.outside(0, last)) {
                Check.due("periodOf(" + bad + ", " + last + ") of " + digits, x.periodOf(bad, last), -1);
                Check.due("periodOf(0, " + bad + ") of " + digits, x.periodOf(0, bad), -1);
                Check.due("periodOf(" + bad + ", " + bad + ") of " + digits, x.periodOf(bad, bad), -1);
                Check.due("periodOf(MIN, " + bad + ") of " + digits, x.periodOf(Check.MIN, bad), -1);
                Check.due("periodOf(" + bad + ", MAX) of " + digits, x.periodOf(bad, Check.MAX), -1);
            }
        }
    }

    /** Promise 16: -1 if "i > j", both of them good. */
    private static void periodOfTurnedPiece() {
        RunsFinder x = Check.text("0000");
        Check.due("periodOf(1, 0)", x.periodOf(1, 0), -1);
        Check.due("periodOf(2, 1)", x.periodOf(2, 1), -1);
        Check.due("periodOf(3, 0)", x.periodOf(3, 0), -1);
        Check.due("periodOf(3, 2)", x.periodOf(3, 2), -1);
        Check.due("periodOf(1, 2)", x.periodOf(1, 2), 1);
        Check.due("periodOf(47, 0) of 48", Check.text("2".repeat(48)).periodOf(47, 0), -1);
    }

    private static void dueSquaresFrom(String digits, int... want) {
        RunsFinder x = Check.text(digits);
        for (int at = 0; at < want.length; at++) {
            Check.due("squaresFrom(" + at + ") of " + digits, x.squaresFrom(at), want[at]);
        }
    }

    private static void dueSquares(String digits, int want) {
        Check.due("squares() of " + digits, Check.text(digits).squares(), want);
    }

    private static void duePeriodOf(String digits, int i, int j, int want) {
        Check.due("periodOf(" + i + ", " + j + ") of " + digits, Check.text(digits).periodOf(i, j), want);
    }
}
