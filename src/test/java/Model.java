import java.util.ArrayList;
import java.util.List;

/**
 * The document's words put down as directly as they go, to hold the class against. It looks at
 * every piece of the text and shares no shortcut with the class.
 */
final class Model {
    private static final int MOST = 48;

    private String text = "";
    /** Null until a question needs the runs: most texts are changed again before that. */
    private List<int[]> runs = null;

    int push(int symbol) {
        if (symbol < 0 || symbol > 3) {
            return -1;
        }
        if (text.length() == MOST) {
            return -2;
        }
        change(text + symbol);
        return text.length();
    }

    int pop(int count) {
        if (count < 0 || count > text.length()) {
            return -1;
        }
        change(text.substring(0, text.length() - count));
        return text.length();
    }

    int repeat(int from, int count) {
        if (!good(from)) {
            return -1;
        }
        if (count < 1 || count > MOST) {
            return -2;
        }
        if (text.length() + count > MOST) {
            return -3;
        }
        String piece = text.substring(from);
        change(text + piece.repeat(count).substring(0, count));
        return text.length();
    }

    int set(int at, int symbol) {
        if (!good(at)) {
            return -1;
        }
        if (symbol < 0 || symbol > 3) {
            return -2;
        }
        int before = symbol(at);
        change(text.substring(0, at) + symbol + text.substring(at + 1));
        return before;
    }

    int reverse() {
        change(new StringBuilder(text).reverse().toString());
        return text.length();
    }

    int length() {
        return text.length();
    }

    int symbol(int at) {
        return good(at) ? text.charAt(at) - '0' : -1;
    }

    int runs() {
        return allRuns().size();
    }

    int start(int run) {
        return ofRun(run, 0);
    }

    int end(int run) {
        return ofRun(run, 1);
    }

    int period(int run) {
        return ofRun(run, 2);
    }

    int runsAt(int at) {
        return good(at) ? (int) allRuns().stream().filter(r -> r[0] <= at && at <= r[1]).count() : -1;
    }

    int squaresFrom(int at) {
        if (!good(at)) {
            return -1;
        }
        int count = 0;
        for (int j = at; j < text.length(); j++) {
            String piece = text.substring(at, j + 1);
            if (square(piece) && leastPeriod(piece) * 2 == piece.length()) {
                count++;
            }
        }
        return count;
    }

    int squares() {
        int count = 0;
        for (int i = 0; i < text.length(); i++) {
            for (int j = i; j < text.length(); j++) {
                if (square(text.substring(i, j + 1))) {
                    count++;
                }
            }
        }
        return count;
    }

    int periodOf(int i, int j) {
        if (!good(i) || !good(j) || i > j) {
            return -1;
        }
        String piece = text.substring(i, j + 1);
        int p = leastPeriod(piece);
        return 2 * p > piece.length() ? 0 : p;
    }

    int longest() {
        return allRuns().stream().mapToInt(r -> r[1] - r[0] + 1).max().orElse(0);
    }

    int power() {
        int most = 0;
        for (int[] r : allRuns()) {
            while (r[1] - r[0] + 1 >= (most + 1) * r[2]) {
                most++;
            }
        }
        return most;
    }

    int common(int i, int j) {
        if (!good(i) || !good(j)) {
            return -1;
        }
        int most = 0;
        for (int k = 1; i + k <= text.length() && j + k <= text.length(); k++) {
            if (text.substring(i, i + k).equals(text.substring(j, j + k))) {
                most = k;
            }
        }
        return most;
    }

    int nextSmaller(int i) {
        if (!good(i)) {
            return -1;
        }
        for (int k = i + 1; k < text.length(); k++) {
            if (text.substring(k).compareTo(text.substring(i)) < 0) {
                return k;
            }
        }
        return text.length();
    }

    String text() {
        return text;
    }

    private void change(String now) {
        text = now;
        runs = null;
    }

    private List<int[]> allRuns() {
        if (runs == null) {
            runs = findRuns();
        }
        return runs;
    }

    private List<int[]> findRuns() {
        List<int[]> found = new ArrayList<>();
        for (int i = 0; i < text.length(); i++) {
            for (int j = i; j < text.length(); j++) {
                int p = leastPeriod(text.substring(i, j + 1));
                if (isRun(i, j, p)) {
                    found.add(new int[] {i, j, p});
                }
            }
        }
        found.sort((a, b) -> a[0] != b[0] ? a[0] - b[0] : a[2] - b[2]);
        return found;
    }

    private boolean isRun(int i, int j, int p) {
        return j - i + 1 >= 2 * p
                && !(i > 0 && isPeriod(text.substring(i - 1, j + 1), p))
                && !(j + 1 < text.length() && isPeriod(text.substring(i, j + 2), p));
    }

    private static boolean isPeriod(String piece, int p) {
        if (p > piece.length()) {
            return false;
        }
        for (int k = p; k < piece.length(); k++) {
            if (piece.charAt(k) != piece.charAt(k - p)) {
                return false;
            }
        }
        return true;
    }

    private static int leastPeriod(String piece) {
        int p = 1;
        while (!isPeriod(piece, p)) {
            p++;
        }
        return p;
    }

    private static boolean square(String piece) {
        int p = piece.length() / 2;
        return piece.length() == 2 * p && piece.substring(0, p).equals(piece.substring(p));
    }

    private int ofRun(int run, int which) {
        return run >= 0 && run < allRuns().size() ? allRuns().get(run)[which] : -1;
    }

    private boolean good(int at) {
        return at >= 0 && at < text.length();
    }
}
