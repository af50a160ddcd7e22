/** Promises 1 to 8: the text and its changes. */
public final class TextTest {
    public static void main(String[] args) {
        newObject();
        push();
        pushToTheFull();
        pop();
        repeat();
        repeatRefused();
        set();
        reverse();
        Check.finish();
    }

    private static void newObject() {
        RunsFinder x = new RunsFinder();
        Check.dueText("new", x, "");
        Check.due("new: runs()", x.runs(), 0);
        Check.due("new: start(0)", x.start(0), -1);
        Check.due("new: end(0)", x.end(0), -1);
        Check.due("new: period(0)", x.period(0), -1);
        Check.due("new: runsAt(0)", x.runsAt(0), -1);
        Check.due("new: squaresFrom(0)", x.squaresFrom(0), -1);
        Check.due("new: squares()", x.squares(), 0);
        Check.due("new: periodOf(0, 0)", x.periodOf(0, 0), -1);
        Check.due("new: longest()", x.longest(), 0);
        Check.due("new: power()", x.power(), 0);
        Check.due("new: common(0, 0)", x.common(0, 0), -1);
        Check.due("new: nextSmaller(0)", x.nextSmaller(0), -1);
        Check.due("new: reverse()", x.reverse(), 0);
        Check.due("new: pop(0)", x.pop(0), 0);
        Check.due("new: pop(1)", x.pop(1), -1);
        Check.due("new: set(0, 0)", x.set(0, 0), -1);
        Check.due("new: repeat(0, 1)", x.repeat(0, 1), -1);

        x.push(2);
        RunsFinder other = new RunsFinder();
        Check.dueText("a second object", other, "");
        Check.dueText("the first object", x, "2");
    }

    private static void push() {
        RunsFinder x = Check.text("3210");
        Check.dueText("pushes", x, "3210");
        for (int symbol : new int[] {Check.MIN, -1, 4, 5, Check.MAX}) {
            Check.due("push(" + symbol + ")", x.push(symbol), -1);
        }
        Check.dueText("refused pushes", x, "3210");
    }

    private static void pushToTheFull() {
        String full = "0123".repeat(12);
        RunsFinder x = Check.text(full);
        Check.due("full: push(0)", x.push(0), -2);
        Check.due("full: push(3)", x.push(3), -2);
        Check.due("full: push(4), the symbol is tested first", x.push(4), -1);
        Check.due("full: push(-1), the symbol is tested first", x.push(-1), -1);
        Check.dueText("full", x, full);
        Check.due("full: pop(1)", x.pop(1), 47);
        Check.due("push(1) into the last place", x.push(1), 48);
        Check.due("full: symbol(47)", x.symbol(47), 1);
    }

    private static void pop() {
        RunsFinder x = Check.text("01230");
        for (int count : new int[] {Check.MIN, -1, 6, 48, Check.MAX}) {
            Check.due("pop(" + count + ")", x.pop(count), -1);
        }
        Check.dueText("refused pops", x, "01230");
        Check.due("pop(0)", x.pop(0), 5);
        Check.dueText("pop(0)", x, "01230");
        Check.due("pop(2)", x.pop(2), 3);
        Check.dueText("pop(2)", x, "012");
        Check.due("pop(4)", x.pop(4), -1);
        Check.due("pop(3)", x.pop(3), 0);
        Check.dueText("pop(3)", x, "");
        Check.due("push(3)", x.push(3), 1);
        Check.dueText("push after pops", x, "3");

        RunsFinder y = Check.text("0000");
        y.pop(2);
        Check.due("what was taken away counts no more: longest()", y.longest(), 2);
        Check.due("what was taken away counts no more: squares()", y.squares(), 1);
    }

    private static void repeat() {
        RunsFinder x = Check.text("0123");
        Check.due("repeat(1, 2)", x.repeat(1, 2), 6);
        Check.dueText("repeat(1, 2)", x, "012312");
        Check.due("repeat(5, 1)", x.repeat(5, 1), 7);
        Check.dueText("repeat(5, 1)", x, "0123122");
        Check.due("repeat(0, 7)", x.repeat(0, 7), 14);
        Check.dueText("repeat(0, 7)", x, "01231220123122");

        RunsFinder onward = Check.text("3012");
        Check.due("repeat(1, 8) copies on", onward.repeat(1, 8), 12);
        Check.dueText("repeat(1, 8)", onward, "301201201201");

        RunsFinder whole = Check.text("1");
        Check.due("repeat(0, 48), one too many", whole.repeat(0, 48), -3);
        Check.due("repeat(0, 47)", whole.repeat(0, 47), 48);
        Check.dueText("repeat(0, 47)", whole, "1".repeat(48));

        RunsFinder reused = Check.text("01233333");
        reused.pop(5);
        reused.repeat(2, 3);
        Check.dueText("repeat reads nothing that was popped", reused, "012222");
    }

    private static void repeatRefused() {
        String digits = "01".repeat(23);
        RunsFinder x = Check.text(digits);
        for (int from : new int[] {Check.MIN, -1, 46, 48, Check.MAX}) {
            Check.due("repeat(" + from + ", 1)", x.repeat(from, 1), -1);
            Check.due("repeat(" + from + ", 0)", x.repeat(from, 0), -1);
            Check.due("repeat(" + from + ", 49)", x.repeat(from, 49), -1);
        }
        for (int count : new int[] {Check.MIN, -1, 0, 49, Check.MAX}) {
            Check.due("repeat(0, " + count + ")", x.repeat(0, count), -2);
            Check.due("repeat(45, " + count + ")", x.repeat(45, count), -2);
        }
        Check.due("repeat(0, 3)", x.repeat(0, 3), -3);
        Check.due("repeat(45, 48)", x.repeat(45, 48), -3);
        Check.dueText("refused repeats", x, digits);
        Check.due("repeat(45, 2)", x.repeat(45, 2), 48);
        Check.dueText("repeat(45, 2)", x, digits + "11");
    }

    private static void set() {
        RunsFinder x = Check.text("0123");
        Check.due("set(0, 3)", x.set(0, 3), 0);
        Check.due("set(3, 0)", x.set(3, 0), 3);
        Check.due("set(1, 1)", x.set(1, 1), 1);
        Check.dueText("sets", x, "3120");
        for (int at : new int[] {Check.MIN, -1, 4, 47, 48, Check.MAX}) {
            Check.due("set(" + at + ", 0)", x.set(at, 0), -1);
            Check.due("set(" + at + ", 4)", x.set(at, 4), -1);
        }
        for (int symbol : new int[] {Check.MIN, -1, 4, Check.MAX}) {
            Check.due("set(2, " + symbol + ")", x.set(2, symbol), -2);
        }
        Check.dueText("refused sets", x, "3120");
    }

    private static void reverse() {
        for (String digits : new String[] {"", "2", "01", "012", "0012", "30211", "0123".repeat(12)}) {
            RunsFinder x = Check.text(digits);
            Check.due("reverse() of " + digits, x.reverse(), digits.length());
            Check.dueText("reverse() of " + digits, x, new StringBuilder(digits).reverse().toString());
        }
    }
}
