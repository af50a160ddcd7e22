/** Promises 9 to 13, 17 and 18: the runs, their numbering, and what is asked over all of them. */
public final class RunsTest {
    public static void main(String[] args) {
        noRuns();
        numbering();
        leastPeriodAlone();
        fullText();
        afterChanges();
        runsAt();
        longest();
        power();
        Check.finish();
    }

    private static void noRuns() {
        Check.dueRuns("");
        Check.dueRuns("0");
        Check.dueRuns("01");
        Check.dueRuns("010");
        Check.dueRuns("01201");
        Check.dueRuns("0123012");
    }

    private static void numbering() {
        Check.dueRuns("33", Check.run(0, 1, 1));
        Check.dueRuns("0101", Check.run(0, 3, 2));
        Check.dueRuns("01010", Check.run(0, 4, 2));
        Check.dueRuns("00100", Check.run(0, 1, 1), Check.run(3, 4, 1));
        Check.dueRuns("001001", Check.run(0, 1, 1), Check.run(0, 5, 3), Check.run(3, 4, 1));
        Check.dueRuns("2001001003", Check.run(1, 2, 1), Check.run(1, 8, 3), Check.run(4, 5, 1),
                Check.run(7, 8, 1));
        Check.dueRuns("010100", Check.run(0, 4, 2), Check.run(4, 5, 1));
        Check.dueRuns("0110110", Check.run(0, 6, 3), Check.run(1, 2, 1), Check.run(4, 5, 1));
    }

    private static void leastPeriodAlone() {
        Check.dueRuns("0000", Check.run(0, 3, 1));
        Check.dueRuns("01010101", Check.run(0, 7, 2));
        Check.dueRuns("1000000", Check.run(1, 6, 1));
    }

    private static void fullText() {
        Check.dueRuns("2".repeat(48), Check.run(0, 47, 1));
        Check.dueRuns("01".repeat(24), Check.run(0, 47, 2));

        RunsFinder x = Check.text("01".repeat(11) + "03");
        x.repeat(0, 24);
        Check.due("two halves of 24: runs()", x.runs(), 3);
        Check.due("two halves of 24: period(0)", x.period(0), 2);
        Check.due("two halves of 24: end(0)", x.end(0), 22);
        Check.due("two halves of 24: start(1)", x.start(1), 0);
        Check.due("two halves of 24: end(1)", x.end(1), 47);
        Check.due("two halves of 24: period(1)", x.period(1), 24);
        Check.due("two halves of 24: start(2)", x.start(2), 24);
        Check.due("two halves of 24: end(2)", x.end(2), 46);
        Check.due("two halves of 24: period(2)", x.period(2), 2);
        Check.due("two halves of 24: start(3)", x.start(3), -1);
        x.set(47, 2);
        Check.due("one symbol short of two halves: runs()", x.runs(), 2);
    }

    private static void afterChanges() {
        RunsFinder x = Check.text("0011");
        Check.due("0011: runs()", x.runs(), 2);
        x.set(1, 1);
        Check.due("0111: runs()", x.runs(), 1);
        Check.due("0111: start(0)", x.start(0), 1);
        Check.due("0111: longest()", x.longest(), 3);
        x.reverse();
        Check.due("1110: start(0)", x.start(0), 0);
        Check.due("1110: end(0)", x.end(0), 2);
        x.repeat(0, 4);
        Check.due("11101110: runs()", x.runs(), 3);
        Check.due("11101110: end(1)", x.end(1), 7);
        Check.due("11101110: period(1)", x.period(1), 4);
        x.pop(1);
        Check.due("1110111: runs()", x.runs(), 2);
        x.push(0);
        Check.due("11101110 again: runs()", x.runs(), 3);
    }

    private static void runsAt() {
        String digits = "2001001003";
        int[] want = {0, 2, 2, 1, 2, 2, 1, 2, 2, 0};
        RunsFinder x = Check.text(digits);
        for (int at = 0; at < want.length; at++) {
            Check.due("runsAt(" + at + ") of " + digits, x.runsAt(at), want[at]);
        }
        for (int at : new int[] {Check.MIN, -1, 10, 47, 48, Check.MAX}) {
            Check.due("runsAt(" + at + ") of " + digits, x.runsAt(at), -1);
        }
        Check.due("runsAt(0) of 0", Check.text("0").runsAt(0), 0);
    }

    private static void longest() {
        dueLongest("", 0);
        dueLongest("0", 0);
        dueLongest("0120", 0);
        dueLongest("11", 2);
        dueLongest("01010", 5);
        dueLongest("000010101", 6);
        dueLongest("000021212", 5);
        dueLongest("0120120333", 7);
        dueLongest("3330120120", 7);
        dueLongest("1".repeat(48), 48);
    }

    private static void power() {
        duePower("", 0);
        duePower("0", 0);
        duePower("0120", 0);
        duePower("11", 2);
        duePower("01010", 2);
        duePower("010101", 3);
        duePower("0120120333", 3);
        duePower("3330120120", 3);
        duePower("012012013", 2);
        duePower("012012012", 3);
        duePower("1".repeat(48), 48);
        duePower("12".repeat(24), 24);
    }

    private static void dueLongest(String digits, int want) {
        Check.due("longest() of " + digits, Check.text(digits).longest(), want);
    }

    private static void duePower(String digits, int want) {
        Check.due("power() of " + digits, Check.text(digits).power(), want);
    }
}
