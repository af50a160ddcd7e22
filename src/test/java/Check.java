/** What the tests share: texts to ask about, and the count of wrong answers. */
final class Check {
    static final int MIN = Integer.MIN_VALUE;
    static final int MAX = Integer.MAX_VALUE;

    private static int wrong = 0;

    private Check() {
    }

    /** A new object with the text that the digits tell. */
    static RunsFinder text(String digits) {
        RunsFinder x = new RunsFinder();
        for (int k = 0; k < digits.length(); k++) {
            due("push of symbol " + k + " of " + digits, x.push(digits.charAt(k) - '0'), k + 1);
        }
        return x;
    }

    /** A new object with the text that the digits tell, which was full of that symbol before. */
    static RunsFinder textOverLeftovers(String digits, int symbol) {
        RunsFinder x = text(String.valueOf(symbol).repeat(48));
        x.pop(48);
        for (int k = 0; k < digits.length(); k++) {
            x.push(digits.charAt(k) - '0');
        }
        return x;
    }

    /**
     * Numbers that are not in least .. most, where these are at least 0 and below 64: the nearest,
     * the farthest, and such as would come inside if some of their bits were dropped.
     */
    static int[] outside(int least, int most) {
        return new int[] {MIN, MIN + 1, MIN + least, -65536, -256, -64, least - 2, least - 1,
            most + 1, most + 2, 64, 65, 256, 257, 65536, 65537, 1 << 30, MAX - 1, MAX};
    }

    static void due(String call, long got, long want) {
        if (got != want) {
            fault(call + " answered " + got + ", due is " + want);
        }
    }

    static void fault(String what) {
        wrong++;
        System.out.println(what);
    }

    /** Asks for the whole text, and for the positions just outside it. */
    static void dueText(String after, RunsFinder x, String digits) {
        due(after + ": length()", x.length(), digits.length());
        for (int k = 0; k < digits.length(); k++) {
            due(after + ": symbol(" + k + ")", x.symbol(k), digits.charAt(k) - '0');
        }
        due(after + ": symbol(-1)", x.symbol(-1), -1);
        due(after + ": symbol(" + digits.length() + ")", x.symbol(digits.length()), -1);
    }

    /** Asks a new object for all runs of the text, each told as start, end, period. */
    static void dueRuns(String digits, int[]... want) {
        dueRunsOf("runs of " + digits, text(digits), want);
    }

    static void dueRunsOf(String of, RunsFinder x, int[]... want) {
        due(of + ": runs()", x.runs(), want.length);
        for (int run = 0; run < want.length; run++) {
            due(of + ": start(" + run + ")", x.start(run), want[run][0]);
            due(of + ": end(" + run + ")", x.end(run), want[run][1]);
            due(of + ": period(" + run + ")", x.period(run), want[run][2]);
        }
        for (int run : outside(0, want.length - 1)) {
            due(of + ": start(" + run + ")", x.start(run), -1);
            due(of + ": end(" + run + ")", x.end(run), -1);
            due(of + ": period(" + run + ")", x.period(run), -1);
        }
    }

    static int[] run(int start, int end, int period) {
        return new int[] {start, end, period};
    }

    static void finish() {
        System.out.println(wrong == 0 ? "all answers are as due" : wrong + " answers are not as due");
        if (wrong != 0) {
            System.exit(1);
        }
    }
}
