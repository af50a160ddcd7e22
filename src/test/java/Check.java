/** What the tests share: texts to ask about, and the count of wrong answers. */
final class Check {
    static final int MIN = Integer.MIN_VALUE;
    static final int MAX = Integer.MAX_VALUE;

    private static int wrong = 0;

    private Check() {
    }

    /** A new object with the text that the digits tell. */
    static RunsFinder text(String digits) {
        RunsFinder x = new RunsFinder();
        for (int k = 0; k < digits.length(); k++) {
            due("push of symbol " + k + " of " + digits, x.push(digits.charAt(k) - '0'), k + 1);
        }
        return x;
    }

    static void due(String call, long got, long want) {
        if (got != want) {
            wrong++;
            System.out.println(call + " answered " + got + ", due is " + want);
        }
    }

    /** Asks for the whole text, and for the positions just outside it. */
    static void dueText(String after, RunsFinder x, String digits) {
        due(after + ": length()", x.length(), digits.length());
        for (int k = 0; k < digits.length(); k++) {
            due(after + ": symbol(" + k + ")", x.symbol(k), digits.charAt(k) - '0');
        }
        due(after + ": symbol(-1)", x.symbol(-1), -1);
        due(after + ": symbol(" + digits.length() + ")", x.symbol(digits.length()), -1);
    }

    /** Asks for all runs of the text, each told as start, end, period. */
    static void dueRuns(String digits, int[]... want) {
        RunsFinder x = text(digits);
        String of = " of " + digits;
        due("runs()" + of, x.runs(), want.length);
        for (int run = 0; run < want.length; run++) {
            due("start(" + run + ")" + of, x.start(run), want[run][0]);
            due("end(" + run + ")" + of, x.end(run), want[run][1]);
            due("period(" + run + ")" + of, x.period(run), want[run][2]);
        }
        for (int run : new int[] {MIN, -1, want.length, want.length + 1, MAX}) {
            due("start(" + run + ")" + of, x.start(run), -1);
            due("end(" + run + ")" + of, x.end(run), -1);
            due("period(" + run + ")" + of, x.period(run), -1);
        }
    }

    static int[] run(int start, int end, int period) {
        return new int[] {start, end, period};
    }

    static void finish() {
        System.out.println(wrong == 0 ? "all answers are as due" : wrong + " answers are not as due");
        if (wrong != 0) {
            System.exit(1);
        }
    }
}
