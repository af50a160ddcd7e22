import java.util.Random;

/**
 * All promises, held against the model: every short text with every question, and long mixed runs
 * of calls, right and wrong, that go up to the 512th call.
 */
public final class ModelTest {
    private static final int MOST_CALLS = 512;
    private static final int MIXED_RUNS = 400;

    private final RunsFinder x = new RunsFinder();
    private final Model model = new Model();
    private int calls = 0;

    public static void main(String[] args) {
        everyText(2, 9);
        everyText(3, 7);
        everyText(4, 6);
        // A fixed seed: every run of the tests makes the same calls.
        Random random = new Random(20261115L);
        for (int k = 0; k < MIXED_RUNS; k++) {
            new ModelTest().mixedCalls(random, 1 + k % 4);
        }
        Check.finish();
    }

    private static void everyText(int kinds, int most) {
        for (int length = 0; length <= most; length++) {
            int texts = (int) Math.pow(kinds, length);
            for (int number = 0; number < texts; number++) {
                ModelTest test = new ModelTest();
                int rest = number;
                for (int k = 0; k < length; k++) {
                    test.change(0, rest % kinds, 0);
                    rest /= kinds;
                }
                test.everyQuestion();
            }
        }
    }

    private void everyQuestion() {
        int length = model.length();
        for (int question = 0; question < 6; question++) {
            ask(question, 0, 0);
        }
        for (int i = -1; i <= length; i++) {
            for (int question = 6; question < 13; question++) {
                ask(question, i, 0);
            }
            for (int j = -1; j <= length; j++) {
                ask(13, i, j);
                ask(14, i, j);
            }
        }
        Check.due("calls on one object stay within " + MOST_CALLS, calls <= MOST_CALLS ? 1 : 0, 1);
    }

    /** Few kinds of symbols and many repeats make texts with many runs. */
    private void mixedCalls(Random random, int kinds) {
        while (calls < MOST_CALLS) {
            if (random.nextInt(6) == 0) {
                mixedChange(random, kinds);
            } else {
                ask(random.nextInt(15), position(random), position(random));
            }
        }
    }

    private void mixedChange(Random random, int kinds) {
        int symbol = random.nextInt(25) == 0 ? odd(random) : random.nextInt(kinds);
        switch (random.nextInt(12)) {
            case 0, 1, 2, 3, 4 -> change(0, symbol, 0);
            case 5 -> change(1, random.nextInt(12) == 0 ? odd(random) : random.nextInt(12), 0);
            case 6, 7 -> change(2, position(random), random.nextInt(10) == 0 ? odd(random) : 1 + random.nextInt(20));
            case 8, 9, 10 -> change(3, position(random), symbol);
            default -> change(4, 0, 0);
        }
    }

    private int position(Random random) {
        int choice = random.nextInt(20);
        if (choice == 0) {
            return odd(random);
        }
        return choice < 3 ? model.length() - random.nextInt(2) : random.nextInt(model.length() + 1);
    }

    private static int odd(Random random) {
        int[] odds = {Integer.MIN_VALUE, Integer.MIN_VALUE + 1, -2, -1, 0, 4, 47, 48, 49, 1 << 30,
            Integer.MAX_VALUE - 1, Integer.MAX_VALUE};
        return odds[random.nextInt(odds.length)];
    }

    private void change(int which, int a, int b) {
        String before = model.text();
        switch (which) {
            case 0 -> due(before, "push(" + a + ")", x.push(a), model.push(a));
            case 1 -> due(before, "pop(" + a + ")", x.pop(a), model.pop(a));
            case 2 -> due(before, "repeat(" + a + ", " + b + ")", x.repeat(a, b), model.repeat(a, b));
            case 3 -> due(before, "set(" + a + ", " + b + ")", x.set(a, b), model.set(a, b));
            default -> due(before, "reverse()", x.reverse(), model.reverse());
        }
    }

    private void ask(int which, int a, int b) {
        String text = model.text();
        switch (which) {
            case 0 -> due(text, "length()", x.length(), model.length());
            case 1 -> due(text, "runs()", x.runs(), model.runs());
            case 2 -> due(text, "squares()", x.squares(), model.squares());
            case 3 -> due(text, "longest()", x.longest(), model.longest());
            case 4 -> due(text, "power()", x.power(), model.power());
            case 5 -> due(text, "runs() again", x.runs(), model.runs());
            case 6 -> due(text, "symbol(" + a + ")", x.symbol(a), model.symbol(a));
            case 7 -> due(text, "start(" + a + ")", x.start(a), model.start(a));
            case 8 -> due(text, "end(" + a + ")", x.end(a), model.end(a));
            case 9 -> due(text, "period(" + a + ")", x.period(a), model.period(a));
            case 10 -> due(text, "runsAt(" + a + ")", x.runsAt(a), model.runsAt(a));
            case 11 -> due(text, "squaresFrom(" + a + ")", x.squaresFrom(a), model.squaresFrom(a));
            case 12 -> due(text, "nextSmaller(" + a + ")", x.nextSmaller(a), model.nextSmaller(a));
            case 13 -> due(text, "periodOf(" + a + ", " + b + ")", x.periodOf(a, b), model.periodOf(a, b));
            default -> due(text, "common(" + a + ", " + b + ")", x.common(a, b), model.common(a, b));
        }
    }

    private void due(String text, String call, int got, int want) {
        calls++;
        Check.due("call " + calls + ", text '" + text + "': " + call, got, want);
    }
}
