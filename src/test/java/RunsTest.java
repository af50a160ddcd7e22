/**
 * Promises 9 to 13, 17 and 18, and the words RUN, PERIOD and numbering of the Terms. Each boundary
 * sentence of theirs has a method.
 */
public final class RunsTest {
    /** A text with 40 runs; short texts have far fewer. */
    private static final String RICH = "001011010010100101101001011010010100101101001011";

    public static void main(String[] args) {
        noRuns();
        lengthOfTwicePeriod();
        leastPeriodAlone();
        notLongerOnTheLeft();
        notLongerOnTheRight();
        numbering();
        greatestPeriod();
        manyRuns();
        badRunNumber();
        afterChanges();
        runsAtFirstAndLast();
        runsAtBadPosition();
        longest();
        longestOfNone();
        power();
        powerJustReached();
        powerOfNone();
        Check.finish();
    }

    /** Promise 9: no run in a text that is empty, of one symbol, or without repetition. */
    private static void noRuns() {
        Check.dueRuns("");
        Check.dueRuns("0");
        Check.dueRuns("01");
        Check.dueRuns("010");
        Check.dueRuns("0123");
    }

    /** Terms: "j - i + 1 >= 2 * p", just reached and just missed, for several periods. */
    private static void lengthOfTwicePeriod() {
        Check.dueRuns("3");
        Check.dueRuns("33", Check.run(0, 1, 1));
        Check.dueRuns("010");
        Check.dueRuns("0101", Check.run(0, 3, 2));
        Check.dueRuns("01010", Check.run(0, 4, 2));
        Check.dueRuns("01201");
        Check.dueRuns("012012", Check.run(0, 5, 3));
        Check.dueRuns("0123012");
        Check.dueRuns("01230123", Check.run(0, 7, 4));
    }

    /** Terms: a run's p is the least period, so a multiple of it makes no second run. */
    private static void leastPeriodAlone() {
        Check.dueRuns("0000", Check.run(0, 3, 1));
        Check.dueRuns("01010101", Check.run(0, 7, 2));
        Check.dueRuns("1000000", Check.run(1, 6, 1));
        Check.dueRuns("2".repeat(48), Check.run(0, 47, 1));
        Check.dueRuns("01".repeat(24), Check.run(0, 47, 2));
    }

    /**
     * Terms: "p is not a period of the piece (i - 1, j) if i > 0": at position 0 nothing is asked,
     * at position 1 already it is.
     */
    private static void notLongerOnTheLeft() {
        Check.dueRuns("001", Check.run(0, 1, 1));
        Check.dueRuns("0001", Check.run(0, 2, 1));
        Check.dueRuns("1001", Check.run(1, 2, 1));
        Check.dueRuns("10102", Check.run(0, 3, 2));
        Check.dueRuns("010102", Check.run(0, 4, 2));
        Check.dueRuns("210102", Check.run(1, 4, 2));
        Check.dueRuns("0010102", Check.run(0, 1, 1), Check.run(1, 5, 2));
    }

    /**
     * Terms: "not a period of the piece (i, j + 1) if j + 1 < length()": at the last position
     * nothing is asked, not even of symbols that were popped.
     */
    private static void notLongerOnTheRight() {
        Check.dueRuns("100", Check.run(1, 2, 1));
        Check.dueRuns("1000", Check.run(1, 3, 1));
        Check.dueRuns("1001", Check.run(1, 2, 1));
        Check.dueRuns("20101", Check.run(1, 4, 2));
        Check.dueRuns("201010", Check.run(1, 5, 2));
        Check.dueRuns("201012", Check.run(1, 4, 2));
        Check.dueRuns("2".repeat(46) + "33", Check.run(0, 45, 1), Check.run(46, 47, 1));

        RunsFinder x = Check.text("1010101");
        x.pop(2);
        Check.dueRunsOf("10101 and 01 popped", x, Check.run(0, 4, 2));
        x.pop(1);
        Check.dueRunsOf("1010 and 101 popped", x, Check.run(0, 3, 2));
        x.pop(1);
        Check.dueRunsOf("101 and 0101 popped", x);
    }

    /** Terms: "in rising order of i, and those with the same i in rising order of p". */
    private static void numbering() {
        Check.dueRuns("00100", Check.run(0, 1, 1), Check.run(3, 4, 1));
        Check.dueRuns("001001", Check.run(0, 1, 1), Check.run(0, 5, 3), Check.run(3, 4, 1));
        Check.dueRuns("2001001003", Check.run(1, 2, 1), Check.run(1, 8, 3), Check.run(4, 5, 1),
                Check.run(7, 8, 1));
        Check.dueRuns("010100", Check.run(0, 4, 2), Check.run(4, 5, 1));
        Check.dueRuns("0110110", Check.run(0, 6, 3), Check.run(1, 2, 1), Check.run(4, 5, 1));
        Check.dueRuns("00100120010012", Check.run(0, 1, 1), Check.run(0, 5, 3), Check.run(0, 13, 7),
                Check.run(3, 4, 1), Check.run(7, 8, 1), Check.run(7, 12, 3), Check.run(10, 11, 1));
    }

    /** Terms: in a text of 48 the greatest period of a run is 24, and it is just reached. */
    private static void greatestPeriod() {
        RunsFinder x = Check.text("01".repeat(11) + "03");
        x.repeat(0, 24);
        Check.dueRunsOf("two halves of 24", x, Check.run(0, 22, 2), Check.run(0, 47, 24),
                Check.run(24, 46, 2));
        x.set(47, 2);
        Check.dueRunsOf("one symbol short of two halves", x, Check.run(0, 22, 2), Check.run(24, 46, 2));
    }

    /** Promises 9 to 12: the last of many runs is good, the number after it is not. */
    private static void manyRuns() {
        RunsFinder x = Check.text(RICH);
        Check.due("many runs: runs()", x.runs(), 40);
        Check.due("many runs: start(0)", x.start(0), 0);
        Check.due("many runs: end(0)", x.end(0), 1);
        Check.due("many runs: period(0)", x.period(0), 1);
        Check.due("many runs: start(39)", x.start(39), 46);
        Check.due("many runs: end(39)", x.end(39), 47);
        Check.due("many runs: period(39)", x.period(39), 1);
        Check.due("many runs: start(40)", x.start(40), -1);
        Check.due("many runs: end(40)", x.end(40), -1);
        Check.due("many runs: period(40)", x.period(40), -1);
    }

    /** Promises 10, 11 and 12: "-1 if run is not good", which goes with the runs, not the text. */
    private static void badRunNumber() {
        for (String digits : new String[] {"", "0", "0123", "00", "00100", "2".repeat(48), RICH}) {
            RunsFinder x = Check.text(digits);
            for (int run : Check.outside(0, x.runs() - 1)) {
                Check.due("start(" + run + ") of " + digits, x.start(run), -1);
                Check.due("end(" + run + ") of " + digits, x.end(run), -1);
                Check.due("period(" + run + ") of " + digits, x.period(run), -1);
            }
        }
        RunsFinder shrunk = Check.text("0011");
        shrunk.pop(1);
        Check.due("start(1) when its run was popped", shrunk.start(1), -1);
        Check.due("end(1) when its run was popped", shrunk.end(1), -1);
        Check.due("period(1) when its run was popped", shrunk.period(1), -1);
    }

    private static void afterChanges() {
        RunsFinder x = Check.text("0011");
        Check.dueRunsOf("0011", x, Check.run(0, 1, 1), Check.run(2, 3, 1));
        x.set(1, 1);
        Check.dueRunsOf("0111", x, Check.run(1, 3, 1));
        x.reverse();
        Check.dueRunsOf("1110", x, Check.run(0, 2, 1));
        x.repeat(0, 4);
        Check.dueRunsOf("11101110", x, Check.run(0, 2, 1), Check.run(0, 7, 4), Check.run(4, 6, 1));
        x.pop(1);
        Check.dueRunsOf("1110111", x, Check.run(0, 2, 1), Check.run(4, 6, 1));
        x.push(0);
        Check.dueRunsOf("11101110 again", x, Check.run(0, 2, 1), Check.run(0, 7, 4), Check.run(4, 6, 1));
    }

    /** Promise 13: "between their first and last position (both included)". */
    private static void runsAtFirstAndLast() {
        dueRunsAt("0", 0);
        dueRunsAt("01", 0, 0);
        dueRunsAt("00", 1, 1);
        dueRunsAt("1001", 0, 1, 1, 0);
        dueRunsAt("0011", 1, 1, 1, 1);
        dueRunsAt("010100", 1, 1, 1, 1, 2, 1);
        dueRunsAt("2001001003", 0, 2, 2, 1, 2, 2, 1, 2, 2, 0);
        RunsFinder full = Check.text("1".repeat(48));
        Check.due("runsAt(0) of 48", full.runsAt(0), 1);
        Check.due("runsAt(47) of 48", full.runsAt(47), 1);
    }

    /** Promise 13: "-1 if at is not good". */
    private static void runsAtBadPosition() {
        for (String digits : new String[] {"", "0", "00", "2001001003", "2".repeat(48)}) {
            RunsFinder x = Check.text(digits);
            for (int at : Check.outside(0, digits.length() - 1)) {
                Check.due("runsAt(" + at + ") of " + digits, x.runsAt(at), -1);
            }
        }
    }

    private static void longest() {
        dueLongest("11", 2);
        dueLongest("01010", 5);
        dueLongest("000010101", 6);
        dueLongest("000021212", 5);
        dueLongest("0120120333", 7);
        dueLongest("3330120120", 7);
        dueLongest("1".repeat(47), 47);
        dueLongest("1".repeat(48), 48);
    }

    /** Promise 17: "0 if there is none". */
    private static void longestOfNone() {
        dueLongest("", 0);
        dueLongest("0", 0);
        dueLongest("01", 0);
        dueLongest("0120", 0);
        RunsFinder x = Check.text("0011");
        x.set(0, 2);
        x.set(3, 3);
        Check.due("longest() when the runs are gone", x.longest(), 0);
    }

    private static void power() {
        duePower("0120120333", 3);
        duePower("3330120120", 3);
        duePower("1".repeat(48), 48);
        duePower("12".repeat(24), 24);
    }

    /** Promise 18: "a length of at least e times its least period", just reached and just missed. */
    private static void powerJustReached() {
        duePower("11", 2);
        duePower("111", 3);
        duePower("0101", 2);
        duePower("01010", 2);
        duePower("010101", 3);
        duePower("01201201", 2);
        duePower("012012012", 3);
        duePower("012".repeat(16), 16);
        duePower("012".repeat(15) + "01", 15);
    }

    /** Promise 18: "0 if there is no run". */
    private static void powerOfNone() {
        duePower("", 0);
        duePower("0", 0);
        duePower("01", 0);
        duePower("0120", 0);
        RunsFinder x = Check.text("0011");
        x.set(0, 2);
        x.set(3, 3);
        Check.due("power() when the runs are gone", x.power(), 0);
    }

    private static void dueRunsAt(String digits, int... want) {
        RunsFinder x = Check.text(digits);
        for (int at = 0; at < want.length; at++) {
            Check.due("runsAt(" + at + ") of " + digits, x.runsAt(at), want[at]);
        }
    }

    private static void dueLongest(String digits, int want) {
        Check.due("longest() of " + digits, Check.text(digits).longest(), want);
    }

    private static void duePower(String digits, int want) {
        Check.due("power() of " + digits, Check.text(digits).power(), want);
    }
}
