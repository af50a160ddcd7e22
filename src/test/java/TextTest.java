/** Promises 1 to 8: the text and its changes. Each boundary sentence of theirs has a method. */
public final class TextTest {
    private static final String FULL = "0123".repeat(12);

    public static void main(String[] args) {
        newObjectIsEmpty();
        objectsShareNothing();
        pushOfNoSymbol();
        pushUpToFull();
        pushWhenFull();
        popAnswersNewLength();
        popOfBadCount();
        popOfAll();
        popForgets();
        repeatPutsCopies();
        repeatCopiesOn();
        repeatUpToFull();
        repeatFromBadPosition();
        repeatOfBadCount();
        repeatOfTooMany();
        setAnswersSymbolBefore();
        setAtBadPosition();
        setToNoSymbol();
        reverse();
        lengthAtTheEnds();
        symbolAtBadPosition();
        Check.finish();
    }

    /** Promise 1: "The text is empty at first." */
    private static void newObjectIsEmpty() {
        RunsFinder x = new RunsFinder();
        Check.dueText("new", x, "");
        Check.due("new: runs()", x.runs(), 0);
        Check.due("new: start(0)", x.start(0), -1);
        Check.due("new: end(0)", x.end(0), -1);
        Check.due("new: period(0)", x.period(0), -1);
        Check.due("new: runsAt(0)", x.runsAt(0), -1);
        Check.due("new: squaresFrom(0)", x.squaresFrom(0), -1);
        Check.due("new: squares()", x.squares(), 0);
        Check.due("new: periodOf(0, 0)", x.periodOf(0, 0), -1);
        Check.due("new: longest()", x.longest(), 0);
        Check.due("new: power()", x.power(), 0);
        Check.due("new: common(0, 0)", x.common(0, 0), -1);
        Check.due("new: nextSmaller(0)", x.nextSmaller(0), -1);
        Check.due("new: reverse()", x.reverse(), 0);
        Check.due("new: pop(0)", x.pop(0), 0);
        Check.due("new: pop(1)", x.pop(1), -1);
        Check.due("new: set(0, 0)", x.set(0, 0), -1);
        Check.due("new: repeat(0, 1)", x.repeat(0, 1), -1);
        Check.dueText("new, after the calls", x, "");
    }

    /** Promise 1: a new object's text is its own, while others are in use. */
    private static void objectsShareNothing() {
        RunsFinder first = Check.text("210");
        RunsFinder second = new RunsFinder();
        Check.dueText("a second object", second, "");
        second.push(3);
        second.push(3);
        Check.dueText("the first object", first, "210");
        Check.dueText("the second object", second, "33");
    }

    /** Promise 2: "-1 if symbol is not in 0 .. 3". */
    private static void pushOfNoSymbol() {
        RunsFinder x = new RunsFinder();
        for (int symbol : Check.outside(0, 3)) {
            Check.due("empty: push(" + symbol + ")", x.push(symbol), -1);
        }
        Check.dueText("pushes refused when empty", x, "");
        for (int symbol = 0; symbol <= 3; symbol++) {
            Check.due("push(" + symbol + ")", x.push(symbol), symbol + 1);
        }
        for (int symbol : Check.outside(0, 3)) {
            Check.due("push(" + symbol + ")", x.push(symbol), -1);
        }
        Check.dueText("refused pushes", x, "0123");
    }

    /** Promise 2: "otherwise answers the new length", up to the 48th symbol. */
    private static void pushUpToFull() {
        RunsFinder x = new RunsFinder();
        for (int k = 1; k <= 48; k++) {
            Check.due("push " + k, x.push((k - 1) % 4), k);
        }
        Check.dueText("48 pushes", x, FULL);
    }

    /** Promise 2: "-2 if there are 48 symbols", tested after the symbol. */
    private static void pushWhenFull() {
        RunsFinder x = Check.text(FULL);
        for (int symbol = 3; symbol >= 0; symbol--) {
            Check.due("full: push(" + symbol + ")", x.push(symbol), -2);
        }
        for (int symbol : Check.outside(0, 3)) {
            Check.due("full: push(" + symbol + "), the symbol is tested first", x.push(symbol), -1);
        }
        Check.dueText("full", x, FULL);
        Check.due("full: pop(1)", x.pop(1), 47);
        Check.due("push(1) into the last place", x.push(1), 48);
        Check.due("full: symbol(47)", x.symbol(47), 1);
        Check.due("full again: push(0)", x.push(0), -2);
    }

    /** Promise 3: "Takes the last count symbols away", none of them and one of them too. */
    private static void popAnswersNewLength() {
        RunsFinder x = Check.text("01230");
        Check.due("pop(0)", x.pop(0), 5);
        Check.dueText("pop(0)", x, "01230");
        Check.due("pop(1)", x.pop(1), 4);
        Check.dueText("pop(1)", x, "0123");
        Check.due("pop(2)", x.pop(2), 2);
        Check.dueText("pop(2)", x, "01");
    }

    /** Promise 3: "-1 if count is not in 0 .. length()". */
    private static void popOfBadCount() {
        for (String digits : new String[] {"", "3", "01230", FULL}) {
            RunsFinder x = Check.text(digits);
            for (int count : Check.outside(0, digits.length())) {
                Check.due("pop(" + count + ") of " + digits, x.pop(count), -1);
            }
            Check.dueText("refused pops", x, digits);
        }
        RunsFinder shrunk = Check.text("01230");
        shrunk.pop(3);
        Check.due("pop(3) when two are left", shrunk.pop(3), -1);
        Check.dueText("pop(3) when two are left", shrunk, "01");
    }

    /** Promise 3: a count of length() is still taken. */
    private static void popOfAll() {
        for (String digits : new String[] {"", "3", "01230", FULL}) {
            RunsFinder x = Check.text(digits);
            Check.due("pop of all of " + digits, x.pop(digits.length()), 0);
            Check.dueText("pop of all of " + digits, x, "");
            Check.due("pop(1) after all of " + digits, x.pop(1), -1);
            Check.due("pop(0) after all of " + digits, x.pop(0), 0);
            Check.due("push after all of " + digits, x.push(2), 1);
            Check.dueText("push after all of " + digits, x, "2");
        }
    }

    /** Promise 3: what was taken away is in no answer any more. */
    private static void popForgets() {
        RunsFinder x = Check.text("0000");
        x.pop(2);
        Check.dueRunsOf("00 and two popped", x, Check.run(0, 1, 1));
        Check.due("00 and two popped: longest()", x.longest(), 2);
        Check.due("00 and two popped: power()", x.power(), 2);
        Check.due("00 and two popped: squares()", x.squares(), 1);
        Check.due("00 and two popped: squaresFrom(1)", x.squaresFrom(1), 0);
        Check.due("00 and two popped: squaresFrom(2)", x.squaresFrom(2), -1);
        Check.due("00 and two popped: runsAt(2)", x.runsAt(2), -1);
        Check.due("00 and two popped: periodOf(0, 2)", x.periodOf(0, 2), -1);
        Check.due("00 and two popped: common(0, 1)", x.common(0, 1), 1);
        Check.due("00 and two popped: common(0, 2)", x.common(0, 2), -1);
        Check.due("00 and two popped: nextSmaller(1)", x.nextSmaller(1), 2);
        Check.due("00 and two popped: nextSmaller(2)", x.nextSmaller(2), -1);
    }

    /** Promise 4: pieces of one symbol, from the last position, and of the whole text. */
    private static void repeatPutsCopies() {
        RunsFinder x = Check.text("0123");
        Check.due("repeat(1, 2)", x.repeat(1, 2), 6);
        Check.dueText("repeat(1, 2)", x, "012312");
        Check.due("repeat(5, 1)", x.repeat(5, 1), 7);
        Check.dueText("repeat(5, 1)", x, "0123122");
        Check.due("repeat(0, 1)", x.repeat(0, 1), 8);
        Check.dueText("repeat(0, 1)", x, "01231220");
        Check.due("repeat(0, 8)", x.repeat(0, 8), 16);
        Check.dueText("repeat(0, 8)", x, "0123122001231220");
    }

    /**
     * Promise 4: "where the piece reaches into what is being put, that is copied on (so count may
     * be greater than what there is from from on)".
     */
    private static void repeatCopiesOn() {
        dueRepeat("3012", 1, 3, "3012012");
        dueRepeat("3012", 1, 4, "30120120");
        dueRepeat("3012", 1, 8, "301201201201");
        dueRepeat("3012", 3, 1, "30122");
        dueRepeat("3012", 3, 2, "301222");
        dueRepeat("3012", 0, 5, "301230123");
        dueRepeat("30", 0, 46, "30".repeat(24));

        RunsFinder x = Check.textOverLeftovers("012", 3);
        Check.due("repeat(2, 3) over leftovers", x.repeat(2, 3), 6);
        Check.dueText("repeat(2, 3) over leftovers", x, "012222");
    }

    /** Promise 4: length() + count may be 48, with the least and the greatest count that fits. */
    private static void repeatUpToFull() {
        dueRepeat("1", 0, 47, "1".repeat(48));
        dueRepeat(FULL.substring(0, 47), 46, 1, FULL.substring(0, 47) + "2");
        dueRepeat(FULL.substring(0, 24), 0, 24, FULL);
        dueRepeat("01".repeat(23), 45, 2, "01".repeat(23) + "11");
    }

    /** Promise 4: "-1 if from is not good", tested before the count and the room. */
    private static void repeatFromBadPosition() {
        for (String digits : new String[] {"", "2", "01".repeat(23), FULL}) {
            RunsFinder x = Check.text(digits);
            for (int from : Check.outside(0, digits.length() - 1)) {
                for (int count : new int[] {1, 0, 49, 3, 48}) {
                    Check.due("repeat(" + from + ", " + count + ") of " + digits,
                            x.repeat(from, count), -1);
                }
            }
            Check.dueText("repeats from bad positions", x, digits);
        }
    }

    /** Promise 4: "-2 if count is not in 1 .. 48", tested before the room. */
    private static void repeatOfBadCount() {
        for (String digits : new String[] {"2", "01".repeat(23), FULL}) {
            RunsFinder x = Check.text(digits);
            for (int count : Check.outside(1, 48)) {
                for (int from : new int[] {0, digits.length() - 1}) {
                    Check.due("repeat(" + from + ", " + count + ") of " + digits,
                            x.repeat(from, count), -2);
                }
            }
            Check.dueText("repeats of bad counts", x, digits);
        }
    }

    /** Promise 4: "-3 if length() + count is greater than 48". */
    private static void repeatOfTooMany() {
        for (int length : new int[] {1, 2, 24, 46, 47, 48}) {
            String digits = FULL.substring(0, length);
            RunsFinder x = Check.text(digits);
            for (int count : new int[] {49 - length, 48}) {
                for (int from : new int[] {0, length - 1}) {
                    Check.due("repeat(" + from + ", " + count + ") of " + digits,
                            x.repeat(from, count), -3);
                }
            }
            Check.dueText("repeats of too many", x, digits);
        }
    }

    /** Promise 5: "otherwise answers the symbol before", at the first and the last position too. */
    private static void setAnswersSymbolBefore() {
        RunsFinder x = Check.text("0123");
        Check.due("set(0, 3)", x.set(0, 3), 0);
        Check.due("set(3, 0)", x.set(3, 0), 3);
        Check.due("set(1, 1)", x.set(1, 1), 1);
        Check.due("set(0, 2)", x.set(0, 2), 3);
        Check.dueText("sets", x, "2120");

        RunsFinder full = Check.text(FULL);
        Check.due("full: set(47, 0)", full.set(47, 0), 3);
        Check.due("full: set(0, 1)", full.set(0, 1), 0);
        Check.dueText("full: sets", full, "1" + FULL.substring(1, 47) + "0");
    }

    /** Promise 5: "-1 if at is not good", tested before the symbol. */
    private static void setAtBadPosition() {
        for (String digits : new String[] {"", "2", "3120", FULL}) {
            RunsFinder x = Check.text(digits);
            for (int at : Check.outside(0, digits.length() - 1)) {
                for (int symbol : new int[] {0, 3, 4, -1}) {
                    Check.due("set(" + at + ", " + symbol + ") of " + digits, x.set(at, symbol), -1);
                }
            }
            Check.dueText("sets at bad positions", x, digits);
        }
        RunsFinder shrunk = Check.text("3120");
        shrunk.pop(1);
        Check.due("set(3, 1) after pop(1)", shrunk.set(3, 1), -1);
        Check.dueText("set(3, 1) after pop(1)", shrunk, "312");
    }

    /** Promise 5: "-2 if symbol is not in 0 .. 3". */
    private static void setToNoSymbol() {
        RunsFinder x = Check.text("3120");
        for (int symbol : Check.outside(0, 3)) {
            for (int at = 0; at < 4; at++) {
                Check.due("set(" + at + ", " + symbol + ")", x.set(at, symbol), -2);
            }
        }
        Check.dueText("sets to no symbol", x, "3120");
    }

    /** Promise 6: empty, of one, even and odd, full, and over what was popped. */
    private static void reverse() {
        for (String digits : new String[] {"", "2", "01", "012", "0012", "30211", FULL.substring(1), FULL}) {
            String turned = new StringBuilder(digits).reverse().toString();
            RunsFinder x = Check.text(digits);
            Check.due("reverse() of " + digits, x.reverse(), digits.length());
            Check.dueText("reverse() of " + digits, x, turned);
            RunsFinder y = Check.textOverLeftovers(digits, 3);
            Check.due("reverse() of " + digits + " over leftovers", y.reverse(), digits.length());
            Check.dueText("reverse() of " + digits + " over leftovers", y, turned);
        }
    }

    /** Promise 7: from "it is empty at first" to "at most 48 SYMBOLS". */
    private static void lengthAtTheEnds() {
        RunsFinder x = new RunsFinder();
        Check.due("length() when empty", x.length(), 0);
        x.push(0);
        Check.due("length() of one", x.length(), 1);
        x.repeat(0, 46);
        Check.due("length() of 47", x.length(), 47);
        x.push(0);
        Check.due("length() when full", x.length(), 48);
        x.push(0);
        Check.due("length() when full, after a refused push", x.length(), 48);
        x.pop(48);
        Check.due("length() when emptied", x.length(), 0);
    }

    /** Promise 8: "-1 if at is not good". */
    private static void symbolAtBadPosition() {
        for (String digits : new String[] {"", "2", "3120", FULL}) {
            RunsFinder x = Check.text(digits);
            for (int at : Check.outside(0, digits.length() - 1)) {
                Check.due("symbol(" + at + ") of " + digits, x.symbol(at), -1);
            }
            Check.dueText("symbols asked for", x, digits);
        }
        RunsFinder shrunk = Check.text("3120");
        shrunk.pop(3);
        Check.due("symbol(1) after pop(3)", shrunk.symbol(1), -1);
        Check.due("symbol(3) after pop(3)", shrunk.symbol(3), -1);
    }

    private static void dueRepeat(String digits, int from, int count, String want) {
        String call = "repeat(" + from + ", " + count + ") of " + digits;
        RunsFinder x = Check.text(digits);
        Check.due(call, x.repeat(from, count), want.length());
        Check.dueText(call, x, want);
    }
}
