/**
 * What holds for every method: "No question changes anything. A refused call changes nothing. In
 * every method the tests are made in the order named", the 512 calls, and any int as an argument.
 */
public final class TermsTest {
    private static final String FULL = "001011010010100101101001011010010100101101001011";
    private static final String[] TEXTS = {"", "3", "01", "2001001003", FULL.substring(0, 47), FULL};
    private static final int QUESTIONS = 14;
    private static final int MOST_CALLS = 512;

    public static void main(String[] args) {
        noQuestionChangesAnything();
        noRefusedCallChangesAnything();
        testsInTheOrderNamed();
        the512thChange();
        the512thQuestion();
        the512thAfterRefusals();
        anyIntForAnyMethod();
        Check.finish();
    }

    /** Terms: "No question changes anything", answered or refused. */
    private static void noQuestionChangesAnything() {
        for (String digits : TEXTS) {
            for (int question = 0; question < QUESTIONS; question++) {
                RunsFinder x = Check.text(digits);
                for (int a : new int[] {Check.MIN, -1, 0, digits.length() - 1, digits.length(), 48, 64, Check.MAX}) {
                    ask(x, question, a, digits.length() - 1);
                    ask(x, question, a, a);
                }
                dueAsNew("question " + question + " asked of " + digits, x, digits);
            }
        }
    }

    /** Terms: "A refused call changes nothing", not even what is asked of the runs. */
    private static void noRefusedCallChangesAnything() {
        for (String digits : TEXTS) {
            int length = digits.length();
            RunsFinder x = Check.text(digits);
            Check.due("push(4) of " + digits, x.push(4), -1);
            Check.due("push(-1) of " + digits, x.push(-1), -1);
            Check.due("pop(-1) of " + digits, x.pop(-1), -1);
            Check.due("pop of one too many of " + digits, x.pop(length + 1), -1);
            Check.due("repeat from the end of " + digits, x.repeat(length, 1), -1);
            Check.due("set at the end of " + digits, x.set(length, 1), -1);
            if (length > 0) {
                Check.due("repeat(0, 0) of " + digits, x.repeat(0, 0), -2);
                Check.due("repeat(0, 49) of " + digits, x.repeat(0, 49), -2);
                Check.due("repeat of one too many of " + digits, x.repeat(0, 49 - length), -3);
                Check.due("set(0, 4) of " + digits, x.set(0, 4), -2);
            }
            if (length == 48) {
                Check.due("push(0) of " + digits, x.push(0), -2);
            }
            dueAsNew("calls refused of " + digits, x, digits);
        }
    }

    /** Terms: "In every method the tests are made in the order named". */
    private static void testsInTheOrderNamed() {
        RunsFinder full = Check.text(FULL);
        Check.due("push: symbol, then room", full.push(4), -1);
        Check.due("repeat: from, then count", full.repeat(48, 0), -1);
        Check.due("repeat: from, then room", full.repeat(48, 1), -1);
        Check.due("repeat: from, then count and room", full.repeat(48, 49), -1);
        Check.due("repeat: count, then room", full.repeat(0, 49), -2);
        Check.due("set: at, then symbol", full.set(48, 4), -1);
    }

    /** What it is: "used for at most 512 calls", all of which may be changes. */
    private static void the512thChange() {
        RunsFinder x = Check.text(FULL);
        int calls = 48;
        while (calls < MOST_CALLS - 2) {
            Check.due("call " + (calls + 1) + ": pop(1)", x.pop(1), 47);
            Check.due("call " + (calls + 2) + ": push(1)", x.push(1), 48);
            calls += 2;
        }
        Check.due("call 511: set(47, 3)", x.set(47, 3), 1);
        Check.due("call 512: symbol(47)", x.symbol(47), 3);
    }

    /** What it is: "used for at most 512 calls", every question as the last one. */
    private static void the512thQuestion() {
        for (int question = 0; question < QUESTIONS; question++) {
            RunsFinder x = Check.text(FULL);
            int first = ask(x, question, 3, 8);
            for (int call = 50; call <= MOST_CALLS; call++) {
                Check.due("question " + question + " as call " + call, ask(x, question, 3, 8), first);
            }
        }
    }

    /** What it is: "used for at most 512 calls", refused ones among them. */
    private static void the512thAfterRefusals() {
        RunsFinder x = new RunsFinder();
        for (int call = 1; call < MOST_CALLS; call++) {
            Check.due("call " + call + ": push(4)", x.push(4), -1);
        }
        Check.due("call 512: push(3)", x.push(3), 1);
    }

    /** Arguments may be any int: each method, in each state, against the model. */
    private static void anyIntForAnyMethod() {
        int[] far = Check.outside(0, 48);
        for (String digits : TEXTS) {
            int length = digits.length();
            int[] near = {-1, 0, 1, 3, 4, length - 1, length, length + 1, 47, 48, 48 - length};
            for (int a : joined(far, near)) {
                RunsFinder x = Check.text(digits);
                Model model = modelOf(digits);
                for (int b : joined(far, near)) {
                    String call = "(" + a + ", " + b + ") of " + digits;
                    Check.due("periodOf" + call, x.periodOf(a, b), model.periodOf(a, b));
                    Check.due("common" + call, x.common(a, b), model.common(a, b));
                    dueRepeatAndSet(call, digits, a, b);
                }
                for (int question = 0; question < QUESTIONS; question++) {
                    Check.due("question " + question + "(" + a + ") of " + digits,
                            ask(x, question, a, 0), askModel(model, question, a, 0));
                }
                dueLastChange("push(" + a + ") of " + digits, x.push(a), model.push(a), x, model);
                RunsFinder y = Check.text(digits);
                Model other = modelOf(digits);
                dueLastChange("pop(" + a + ") of " + digits, y.pop(a), other.pop(a), y, other);
            }
        }
    }

    private static void dueRepeatAndSet(String call, String digits, int a, int b) {
        RunsFinder x = Check.text(digits);
        Model model = modelOf(digits);
        dueLastChange("repeat" + call, x.repeat(a, b), model.repeat(a, b), x, model);
        RunsFinder y = Check.text(digits);
        Model other = modelOf(digits);
        dueLastChange("set" + call, y.set(a, b), other.set(a, b), y, other);
    }

    private static void dueLastChange(String call, int got, int want, RunsFinder x, Model model) {
        Check.due(call, got, want);
        Check.dueText("after " + call, x, model.text());
    }

    /** Text, runs and counts are those of a new object with this text. */
    private static void dueAsNew(String after, RunsFinder x, String digits) {
        Check.dueText(after, x, digits);
        RunsFinder fresh = Check.text(digits);
        Check.due(after + ": squares()", x.squares(), fresh.squares());
        Check.due(after + ": longest()", x.longest(), fresh.longest());
        Check.due(after + ": power()", x.power(), fresh.power());
        int runs = fresh.runs();
        Check.due(after + ": runs()", x.runs(), runs);
        for (int run = 0; run <= runs; run++) {
            Check.due(after + ": start(" + run + ")", x.start(run), fresh.start(run));
            Check.due(after + ": end(" + run + ")", x.end(run), fresh.end(run));
            Check.due(after + ": period(" + run + ")", x.period(run), fresh.period(run));
        }
    }

    private static int ask(RunsFinder x, int question, int a, int b) {
        return switch (question) {
            case 0 -> x.length();
            case 1 -> x.symbol(a);
            case 2 -> x.runs();
            case 3 -> x.start(a);
            case 4 -> x.end(a);
            case 5 -> x.period(a);
            case 6 -> x.runsAt(a);
            case 7 -> x.squaresFrom(a);
            case 8 -> x.squares();
            case 9 -> x.periodOf(a, b);
            case 10 -> x.longest();
            case 11 -> x.power();
            case 12 -> x.common(a, b);
            default -> x.nextSmaller(a);
        };
    }

    private static int askModel(Model model, int question, int a, int b) {
        return switch (question) {
            case 0 -> model.length();
            case 1 -> model.symbol(a);
            case 2 -> model.runs();
            case 3 -> model.start(a);
            case 4 -> model.end(a);
            case 5 -> model.period(a);
            case 6 -> model.runsAt(a);
            case 7 -> model.squaresFrom(a);
            case 8 -> model.squares();
            case 9 -> model.periodOf(a, b);
            case 10 -> model.longest();
            case 11 -> model.power();
            case 12 -> model.common(a, b);
            default -> model.nextSmaller(a);
        };
    }

    private static Model modelOf(String digits) {
        Model model = new Model();
        for (int k = 0; k < digits.length(); k++) {
            model.push(digits.charAt(k) - '0');
        }
        return model;
    }

    private static int[] joined(int[] a, int[] b) {
        int[] all = new int[a.length + b.length];
        System.arraycopy(a, 0, all, 0, a.length);
        System.arraycopy(b, 0, all, a.length, b.length);
        return all;
    }
}
