import java.util.ArrayList;
import java.util.List;

/**
 * Compares the program with a slow model that follows the words of the document, over long rows of calls.
 * The calls come from a fixed row of numbers, so that every run of this test is the same.
 */
public final class StreetWalkerModel {
    private static final int NONE = -1;
    private static final int FULL = -2;
    private static final int TOWNS = 400;
    private static final int CHANGES = 25;

    private static int wrong = 0;
    private static long state = 20261115L;

    private final int[][] streets = new int[10][];

    private static int next(int bound) {
        state = state * 6364136223846793005L + 1442695040888963407L;
        return (int) ((state >>> 33) % bound);
    }

    private static void due(String call, int got, int want) {
        if (got != want) {
            wrong++;
            System.out.println(call + " answered " + got + ", due is " + want);
        }
    }

    private int build(int a, int b, int length) {
        if (a == b || a < 0 || a > 5 || b < 0 || b > 5 || length < 0 || length > 20) {
            return NONE;
        }
        int s = 0;
        while (s < 10 && streets[s] != null) {
            s++;
        }
        if (s == 10) {
            return FULL;
        }
        streets[s] = new int[] {a, b, length};
        return s;
    }

    private boolean has(int s) {
        return s >= 0 && s < 10 && streets[s] != null;
    }

    private boolean close(int s) {
        boolean was = has(s);
        if (was) {
            streets[s] = null;
        }
        return was;
    }

    private boolean setLength(int s, int length) {
        if (!has(s) || length < 0 || length > 20) {
            return false;
        }
        streets[s][2] = length;
        return true;
    }

    private int present() {
        int set = 0;
        for (int s = 0; s < 10; s++) {
            set += has(s) ? 1 << s : 0;
        }
        return set;
    }

    private int endsAt(int c, String row) {
        int count = 0;
        for (int s = 0; s < 10; s++) {
            if (has(s) && (streets[s][0] == c || streets[s][1] == c)) {
                count += row.charAt(s) == '1' ? 2 : 1;
            }
        }
        return count;
    }

    private int odd() {
        int corners = 0;
        for (int c = 0; c < 6; c++) {
            corners += endsAt(c, "0000000000") % 2 << c;
        }
        return corners;
    }

    private boolean isExtraSet(String row) {
        for (int s = 0; s < 10; s++) {
            if (row.charAt(s) == '1' && !has(s)) {
                return false;
            }
        }
        for (int c = 0; c < 6; c++) {
            if (endsAt(c, row) % 2 != 0) {
                return false;
            }
        }
        return true;
    }

    private int length(String row) {
        int sum = 0;
        for (int s = 0; s < 10; s++) {
            sum += row.charAt(s) == '1' ? streets[s][2] : 0;
        }
        return sum;
    }

    private List<String> extraSets() {
        List<String> rows = new ArrayList<>();
        for (int i = 0; i < 1024; i++) {
            String row = Integer.toBinaryString(1024 + i).substring(1);
            if (isExtraSet(row)) {
                rows.add(row);
            }
        }
        return rows;
    }

    /** The row of the best set, or null; with a street s that is not -1, of those whose digit s is the given one. */
    private String best(List<String> rows, int s, char digit) {
        String best = null;
        for (String row : rows) {
            if (s != -1 && row.charAt(s) != digit) {
                continue;
            }
            if (best == null || length(row) < length(best)
                    || length(row) == length(best) && row.compareTo(best) < 0) {
                best = row;
            }
        }
        return best;
    }

    private int lengthOrNone(String row) {
        return row == null ? NONE : length(row);
    }

    private static int setOf(String row) {
        return row == null ? NONE : Integer.parseInt(new StringBuilder(row).reverse().toString(), 2);
    }

    /** The least length of a way that comes to no corner of seen, or NONE. */
    private int way(int a, int b, int seen) {
        if (a == b) {
            return 0;
        }
        int least = NONE;
        for (int s = 0; s < 10; s++) {
            if (!has(s) || streets[s][0] != a && streets[s][1] != a) {
                continue;
            }
            int to = streets[s][0] + streets[s][1] - a;
            if ((seen >> to & 1) == 0) {
                int rest = way(to, b, seen | 1 << to);
                if (rest != NONE && (least == NONE || rest + streets[s][2] < least)) {
                    least = rest + streets[s][2];
                }
            }
        }
        return least;
    }

    private int way(int a, int b) {
        return a < 0 || a > 5 || b < 0 || b > 5 ? NONE : way(a, b, 1 << a);
    }

    private boolean connected() {
        for (int a = 0; a < 6; a++) {
            for (int b = 0; b < 6; b++) {
                if (endsAt(a, "0000000000") > 0 && endsAt(b, "0000000000") > 0 && way(a, b) == NONE) {
                    return false;
                }
            }
        }
        return true;
    }

    /** Tries the streets in their order and goes back from dead ends, so that the first walk found is the least. */
    private boolean walk(int here, int start, int[] left, List<Integer> list, int size) {
        if (list.size() == size) {
            return here == start;
        }
        for (int s = 0; s < 10; s++) {
            if (left[s] > 0 && (streets[s][0] == here || streets[s][1] == here)) {
                left[s]--;
                list.add(s);
                if (walk(streets[s][0] + streets[s][1] - here, start, left, list, size)) {
                    return true;
                }
                list.remove(list.size() - 1);
                left[s]++;
            }
        }
        return false;
    }

    private List<Integer> firstWalk(int c, String best) {
        List<Integer> list = new ArrayList<>();
        if (best == null || !connected() || c < 0 || c > 5 || endsAt(c, best) == 0) {
            return list;
        }
        int[] left = new int[10];
        int size = 0;
        for (int s = 0; s < 10; s++) {
            left[s] = !has(s) ? 0 : best.charAt(s) == '1' ? 2 : 1;
            size += left[s];
        }
        if (!walk(c, c, left, list, size)) {
            System.out.println("the model finds no walk from " + c);
            wrong++;
        }
        return list;
    }

    private int walkLength(String best) {
        if (best == null || !connected()) {
            return NONE;
        }
        int sum = length(best);
        for (int s = 0; s < 10; s++) {
            sum += has(s) ? streets[s][2] : 0;
        }
        return sum;
    }

    private void change(String at, StreetWalker x, int greatestLength) {
        int kind = next(10);
        int s = next(12) - 1;
        int length = next(12) == 0 ? next(2) * 22 - 1 : next(greatestLength + 1);
        if (kind < 7) {
            int a = next(20) == 0 ? next(2) * 7 - 1 : next(6);
            int b = next(20) == 0 ? next(2) * 7 - 1 : next(6);
            due(at + "build(" + a + ", " + b + ", " + length + ")", x.build(a, b, length), build(a, b, length));
        } else if (kind < 8) {
            due(at + "close(" + s + ")", x.close(s) ? 1 : 0, close(s) ? 1 : 0);
        } else {
            due(at + "setLength(" + s + ", " + length + ")", x.setLength(s, length) ? 1 : 0, setLength(s, length) ? 1 : 0);
        }
    }

    private void compareSets(String at, StreetWalker x, List<String> rows) {
        String best = best(rows, -1, '0');
        due(at + "streets()", x.streets(), present());
        due(at + "odd()", x.odd(), odd());
        due(at + "connected()", x.connected() ? 1 : 0, connected() ? 1 : 0);
        due(at + "extra()", x.extra(), lengthOrNone(best));
        due(at + "bestSet()", x.bestSet(), setOf(best));
        due(at + "walkLength()", x.walkLength(), walkLength(best));
        int s = next(12) - 1;
        due(at + "extraWith(" + s + ")", x.extraWith(s), has(s) ? lengthOrNone(best(rows, s, '1')) : NONE);
        due(at + "extraWithout(" + s + ")", x.extraWithout(s), has(s) ? lengthOrNone(best(rows, s, '0')) : NONE);
        int a = next(8) - 1;
        int b = next(8) - 1;
        due(at + "way(" + a + ", " + b + ")", x.way(a, b), way(a, b));
    }

    private void compareWalk(String at, StreetWalker x, List<String> rows) {
        int c = next(8) - 1;
        List<Integer> list = firstWalk(c, best(rows, -1, '0'));
        for (int k = -1; k <= list.size() + 1; k++) {
            int want = k >= 0 && k < list.size() ? list.get(k) : NONE;
            due(at + "walkAt(" + c + ", " + k + ")", x.walkAt(c, k), want);
        }
    }

    public static void main(String[] args) {
        for (int town = 0; town < TOWNS; town++) {
            StreetWalker x = new StreetWalker();
            StreetWalkerModel model = new StreetWalkerModel();
            // Small lengths make many sets and ways of the same length.
            int greatestLength = town % 3 == 0 ? 20 : town % 3;
            for (int i = 0; i < CHANGES; i++) {
                String at = "town " + town + ", change " + i + ": ";
                model.change(at, x, greatestLength);
                List<String> rows = model.extraSets();
                if (i % 2 == 0) {
                    model.compareSets(at, x, rows);
                }
                if (i % 4 == 3) {
                    model.compareWalk(at, x, rows);
                }
            }
        }
        System.out.println(wrong == 0 ? "all answers are as due" : wrong + " answers are not as due");
        if (wrong != 0) {
            System.exit(1);
        }
    }
}
