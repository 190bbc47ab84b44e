import java.util.ArrayList;
import java.util.HashMap;
import java.util.List;
import java.util.Map;

/**
 * Compares BoxGame with a slow second program that follows the document word by word: in every
 * position, and over long runs of mixed calls, wrong arguments among them.
 */
public final class ReferenceTest {
    private static final int[][] BOX_EDGES = {{0, 2, 6, 7}, {1, 3, 7, 8}, {2, 4, 9, 10}, {3, 5, 10, 11}};
    private static final Map<String, Integer> VALUES = new HashMap<>();
    private static int wrong = 0;

    /** Holds nothing but the draws; every answer is found by playing them again. */
    private static final class Reference {
        final List<Integer> draws = new ArrayList<>();
        final int[] owners = new int[4];
        int player;

        Reference() {
            replay();
        }

        int replay() {
            int completed = 0;
            player = 0;
            java.util.Arrays.fill(owners, -1);
            for (int i = 0; i < draws.size(); i++) {
                completed = 0;
                List<Integer> sofar = draws.subList(0, i + 1);
                for (int b = 0; b < 4; b++) {
                    if (owners[b] == -1 && isFull(b, sofar)) {
                        owners[b] = player;
                        completed++;
                    }
                }
                if (completed == 0) {
                    player = 1 - player;
                }
            }
            return completed;
        }

        static boolean isFull(int box, List<Integer> drawn) {
            for (int e : BOX_EDGES[box]) {
                if (!drawn.contains(e)) {
                    return false;
                }
            }
            return true;
        }

        boolean isFree(int e) {
            return e >= 0 && e <= 11 && !draws.contains(e);
        }

        boolean many() {
            return 12 - draws.size() > 8;
        }

        int draw(int e) {
            if (!isFree(e)) {
                return -1;
            }
            draws.add(e);
            return replay();
        }

        int back() {
            if (draws.isEmpty()) {
                return -1;
            }
            int e = draws.remove(draws.size() - 1);
            replay();
            return e;
        }

        void restart() {
            draws.clear();
            replay();
        }

        int turn() {
            return draws.size() == 12 ? -1 : player;
        }

        int free() {
            int sum = 0;
            for (int e = 0; e < 12; e++) {
                sum += isFree(e) ? (int) Math.pow(2, e) : 0;
            }
            return sum;
        }

        int boxes(int p) {
            int count = 0;
            for (int o : owners) {
                count += o == p ? 1 : 0;
            }
            return p == 0 || p == 1 ? count : -1;
        }

        int owner(int r, int c) {
            return (r == 0 || r == 1) && (c == 0 || c == 1) ? owners[2 * r + c] : -1;
        }

        int value() {
            return many() ? -100 : valueWithout(draws);
        }

        int worth(int e) {
            return many() || !isFree(e) ? -100 : worthWithout(draws, e);
        }

        int best() {
            if (many()) {
                return -100;
            }
            for (int e = 0; e < 12; e++) {
                if (isFree(e) && worth(e) == value()) {
                    return e;
                }
            }
            return -1;
        }

        int bestEdges() {
            int sum = 0;
            for (int e = 0; e < 12; e++) {
                sum += isFree(e) && worth(e) == value() ? (int) Math.pow(2, e) : 0;
            }
            return many() ? -100 : sum;
        }

        int forecast(int p) {
            if (p != 0 && p != 1) {
                return -1;
            }
            if (many()) {
                return -100;
            }
            Reference copy = new Reference();
            copy.draws.addAll(draws);
            copy.replay();
            while (copy.best() != -1) {
                copy.draw(copy.best());
            }
            return copy.boxes(p);
        }

        int playOut(int n) {
            if (many()) {
                return -100;
            }
            int count = 0;
            while (count < n && turn() != -1) {
                draw(best());
                count++;
            }
            return count;
        }

        static int valueWithout(List<Integer> drawn) {
            List<Integer> sorted = new ArrayList<>(drawn);
            java.util.Collections.sort(sorted);
            Integer known = VALUES.get(sorted.toString());
            if (known != null) {
                return known;
            }
            int value = drawn.size() == 12 ? 0 : Integer.MIN_VALUE;
            for (int e = 0; e < 12; e++) {
                if (!drawn.contains(e)) {
                    value = Math.max(value, worthWithout(drawn, e));
                }
            }
            VALUES.put(sorted.toString(), value);
            return value;
        }

        static int worthWithout(List<Integer> drawn, int e) {
            List<Integer> after = new ArrayList<>(drawn);
            after.add(e);
            int n = 0;
            for (int b = 0; b < 4; b++) {
                n += isFull(b, after) && !isFull(b, drawn) ? 1 : 0;
            }
            return n > 0 ? n + valueWithout(after) : -valueWithout(after);
        }
    }

    private static void same(String call, Reference y, int got, int want) {
        if (got != want) {
            wrong++;
            if (wrong <= 20) {
                System.out.println(call + " answered " + got + ", due is " + want + ", after " + y.draws);
            }
        }
    }

    private static void sameAnswers(BoxGame x, Reference y) {
        same("turn()", y, x.turn(), y.turn());
        same("free()", y, x.free(), y.free());
        same("value()", y, x.value(), y.value());
        same("best()", y, x.best(), y.best());
        same("bestEdges()", y, x.bestEdges(), y.bestEdges());
        for (int e = -1; e <= 12; e++) {
            same("worth(" + e + ")", y, x.worth(e), y.worth(e));
        }
        for (int p = -1; p <= 2; p++) {
            same("boxes(" + p + ")", y, x.boxes(p), y.boxes(p));
            same("forecast(" + p + ")", y, x.forecast(p), y.forecast(p));
            for (int c = -1; c <= 2; c++) {
                same("owner(" + p + ", " + c + ")", y, x.owner(p, c), y.owner(p, c));
            }
        }
    }

    /** Steps of 5 and 7 run through all twelve edges too, so each set is drawn in four orders. */
    private static void everySetOfEdges() {
        for (int step : new int[] {1, 5, 7, 11}) {
            for (int set = 0; set < 4096; set++) {
                BoxGame x = new BoxGame();
                Reference y = new Reference();
                for (int i = 0; i < 12; i++) {
                    int e = i * step % 12;
                    if ((set >> e & 1) == 1) {
                        same("draw(" + e + ")", y, x.draw(e), y.draw(e));
                    }
                }
                sameAnswers(x, y);
            }
        }
    }

    private static long seed = 1;

    private static int pick(int n) {
        seed = seed * 6364136223846793005L + 1442695040888963407L;
        return (int) ((seed >>> 33) % n);
    }

    private static int argument(int low, int high) {
        int[] odd = {Integer.MIN_VALUE, Integer.MAX_VALUE, -100, 32, 33, 64};
        return pick(20) == 0 ? odd[pick(odd.length)] : low + pick(high - low + 1);
    }

    private static void oneCall(BoxGame x, Reference y) {
        int a = argument(-1, 2);
        int b = argument(-1, 2);
        int e = argument(-1, 12);
        switch (pick(20)) {
            case 0: same("boxes(" + a + ")", y, x.boxes(a), y.boxes(a)); break;
            case 1: same("owner(" + a + ", " + b + ")", y, x.owner(a, b), y.owner(a, b)); break;
            case 2: same("value()", y, x.value(), y.value()); break;
            case 3: same("worth(" + e + ")", y, x.worth(e), y.worth(e)); break;
            case 4: same("best()", y, x.best(), y.best()); break;
            case 5: same("bestEdges()", y, x.bestEdges(), y.bestEdges()); break;
            case 6: same("forecast(" + a + ")", y, x.forecast(a), y.forecast(a)); break;
            case 7: same("turn()", y, x.turn(), y.turn()); break;
            case 8: same("free()", y, x.free(), y.free()); break;
            case 9: same("playOut(" + a + ")", y, x.playOut(a), y.playOut(a)); break;
            case 10: case 11: case 12: case 13: same("back()", y, x.back(), y.back()); break;
            case 14:
                if (pick(5) == 0) {
                    x.restart();
                    y.restart();
                }
                break;
            default: same("draw(" + e + ")", y, x.draw(e), y.draw(e)); break;
        }
    }

    private static void longRuns() {
        for (int run = 0; run < 300; run++) {
            BoxGame x = new BoxGame();
            Reference y = new Reference();
            for (int call = 0; call < 440; call++) {
                oneCall(x, y);
            }
            sameAnswers(x, y);
            int left = y.draws.size();
            for (int i = 0; i <= left; i++) {
                same("back()", y, x.back(), y.back());
            }
        }
    }

    public static void main(String[] args) {
        everySetOfEdges();
        longRuns();
        System.out.println(wrong == 0 ? "all answers are as due" : wrong + " answers are not as due");
        if (wrong != 0) {
            System.exit(1);
        }
    }
}
