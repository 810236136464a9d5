import java.util.ArrayDeque;
import java.util.HashMap;
import java.util.Map;

/**
 * Compares the class with a slow model that follows the document's terms word by word, on many
 * programs made from a fixed seed. The model holds every count as the document tells it and
 * improves walks until nothing changes, so it shares no method with the class.
 */
public final class ReferenceTests {
    private static final int PROGRAMS = 4000;
    private static int wrong = 0;
    private static long seed = 20261115L;

    private final boolean[][] edge = new boolean[6][6];
    private final int[] cost = new int[6];
    private final int[] bound = {1, 1, 1, 1, 1, 1};
    private final WorstWalk walk = new WorstWalk();

    private final boolean[] live = new boolean[6];
    private final int[] dominators = new int[6];
    private boolean regular;

    public static void main(String[] args) {
        int regularOnes = 0;
        for (int i = 0; i < PROGRAMS && wrong < 20; i++) {
            ReferenceTests program = new ReferenceTests();
            program.make(i);
            program.compare();
            program.change();
            program.compare();
            regularOnes += program.regular ? 1 : 0;
        }
        if (regularOnes < PROGRAMS / 4 || regularOnes > PROGRAMS * 9 / 10) {
            wrong++;
            System.out.println("the programs are too much alike: " + regularOnes + " regular");
        }
        System.out.println(wrong == 0 ? "the class and the model agree" : wrong + " differ");
        if (wrong != 0) {
            System.exit(1);
        }
    }

    private static int pick(int below) {
        seed = seed * 6364136223846793005L + 1442695040888963407L;
        return (int) ((seed >>> 33) % below);
    }

    private void due(String call, int got, int want) {
        if (got != want) {
            wrong++;
            System.out.println(describe() + call + " answered " + got + ", due is " + want);
        }
    }

    private String describe() {
        StringBuilder text = new StringBuilder("edges");
        for (int a = 0; a < 6; a++) {
            for (int b = 0; b < 6; b++) {
                text.append(edge[a][b] ? " " + a + b : "");
            }
        }
        text.append(" costs ").append(java.util.Arrays.toString(cost));
        text.append(" bounds ").append(java.util.Arrays.toString(bound));
        return text.append(": ").toString();
    }

    private void make(int number) {
        int onward = 20 + pick(70);
        int back = number % 3 == 0 ? onward : pick(50);
        int[] name = {0, 1, 2, 3, 4, 5};
        for (int i = 5; i > 1; i--) {
            int j = 1 + pick(i);
            int kept = name[i];
            name[i] = name[j];
            name[j] = kept;
        }
        for (int i = 0; i < 6; i++) {
            for (int j = 0; j < 6; j++) {
                boolean next = number % 2 == 0 && j == i + 1;
                if (i != j && (next || pick(100) < (i < j ? onward : back))) {
                    put(name[i], name[j]);
                }
            }
        }
        for (int b = 0; b < 6; b++) {
            cost[b] = pick(4) == 0 ? 0 : pick(51);
            bound[b] = 1 + pick(3);
            walk.cost(b, cost[b]);
            walk.bound(b, bound[b]);
        }
    }

    private void put(int a, int b) {
        edge[a][b] = true;
        walk.join(a, b);
    }

    private void change() {
        for (int i = 0; i < 3; i++) {
            int a = pick(6);
            int b = pick(6);
            boolean was = edge[a][b];
            due("cut(" + a + ", " + b + ")", walk.cut(a, b) ? 1 : 0, was ? 1 : 0);
            edge[a][b] = false;
        }
    }

    private void compare() {
        findDominators();
        findRegular();
        due("live()", walk.live(), liveMask());
        due("regular()", walk.regular() ? 1 : 0, regular ? 1 : 0);
        for (int b = 0; b < 6; b++) {
            due("dominators(" + b + ")", walk.dominators(b), dominators[b]);
            due("loop(" + b + ")", walk.loop(b), loop(b));
        }
        compareWalks();
    }

    private void compareWalks() {
        Integer[] worst = ends(cost, 1);
        Integer[] least = ends(cost, -1);
        int all = greatest(worst);
        due("worstOfAll()", walk.worstOfAll(), all);
        for (int b = 0; b < 6; b++) {
            due("worst(" + b + ")", walk.worst(b), worst[b] == null ? -1 : worst[b]);
            due("least(" + b + ")", walk.least(b), least[b] == null ? -1 : -least[b]);
            int[] ones = new int[6];
            ones[b] = 1;
            due("visits(" + b + ")", walk.visits(b), live[b] ? greatest(ends(ones, 1)) : 0);
        }
        int b = pick(6);
        int n = pick(2) == 0 ? all - 3 + pick(7) : pick(all + 100);
        due("costFor(" + b + ", " + n + ")", walk.costFor(b, n), costFor(b, n));
    }

    private int liveMask() {
        int mask = 0;
        for (int b = 0; b < 6; b++) {
            mask |= live[b] ? 1 << b : 0;
        }
        return mask;
    }

    /** Goes every way without a block twice; what all ways to a block share dominates it. */
    private void findDominators() {
        for (int b = 0; b < 6; b++) {
            live[b] = false;
            dominators[b] = 0;
        }
        goOn(0, 1);
    }

    private void goOn(int at, int way) {
        dominators[at] = live[at] ? dominators[at] & way : way;
        live[at] = true;
        for (int b = 0; b < 6; b++) {
            if (edge[at][b] && (way >> b & 1) == 0) {
                goOn(b, way | 1 << b);
            }
        }
    }

    private boolean isBack(int u, int h) {
        return live[u] && edge[u][h] && (dominators[u] >> h & 1) != 0;
    }

    private void findRegular() {
        boolean[][] leads = new boolean[6][6];
        for (int a = 0; a < 6; a++) {
            for (int b = 0; b < 6; b++) {
                leads[a][b] = live[a] && edge[a][b] && !isBack(a, b);
            }
        }
        close(leads);
        regular = true;
        for (int a = 0; a < 6; a++) {
            regular &= !leads[a][a];
        }
    }

    private static void close(boolean[][] leads) {
        for (int k = 0; k < 6; k++) {
            for (int a = 0; a < 6; a++) {
                for (int b = 0; b < 6; b++) {
                    leads[a][b] |= leads[a][k] && leads[k][b];
                }
            }
        }
    }

    private int loop(int h) {
        boolean[][] leads = new boolean[6][6];
        for (int a = 0; a < 6; a++) {
            for (int b = 0; b < 6; b++) {
                leads[a][b] = a != h && b != h && live[a] && (a == b || edge[a][b]);
            }
        }
        close(leads);
        int mask = 0;
        for (int u = 0; u < 6; u++) {
            for (int b = 0; b < 6; b++) {
                if (isBack(u, h) && leads[b][u]) {
                    mask |= 1 << b | 1 << h;
                }
            }
        }
        return mask;
    }

    /** The greatest sum of sign times weight over the walks to each block; null without a walk. */
    private Integer[] ends(int[] weight, int sign) {
        Integer[] found = new Integer[6];
        if (!regular) {
            return found;
        }
        boolean[] counted = new boolean[6];
        for (int h = 0; h < 6; h++) {
            counted[h] = loop(h) != 0;
        }
        Map<Integer, Integer> best = new HashMap<>();
        ArrayDeque<Integer> open = new ArrayDeque<>();
        int start = counted[0] ? 8 : 0;
        best.put(start, sign * weight[0]);
        open.add(start);
        while (!open.isEmpty()) {
            int state = open.remove();
            for (int b = 0; b < 6; b++) {
                int next = visit(state, b, counted);
                if (next >= 0) {
                    int sum = best.get(state) + sign * weight[b];
                    if (!best.containsKey(next) || best.get(next) < sum) {
                        best.put(next, sum);
                        open.add(next);
                    }
                }
            }
        }
        for (Map.Entry<Integer, Integer> entry : best.entrySet()) {
            int at = entry.getKey() & 7;
            if (found[at] == null || found[at] < entry.getValue()) {
                found[at] = entry.getValue();
            }
        }
        return found;
    }

    /** A state is the block (three bits) and the six counts (two bits each), nothing forgotten. */
    private int visit(int state, int b, boolean[] counted) {
        int at = state & 7;
        if (!edge[at][b]) {
            return -1;
        }
        int shift = 3 + 2 * b;
        int count = 0;
        if (counted[b]) {
            count = isBack(at, b) ? (state >> shift & 3) + 1 : 1;
        }
        if (count > bound[b]) {
            return -1;
        }
        return state & ~(3 << shift) & ~7 | count << shift | b;
    }

    private static int greatest(Integer[] values) {
        int most = -1;
        for (Integer value : values) {
            most = value != null && value > most ? value : most;
        }
        return most;
    }

    private int costFor(int b, int n) {
        int answer = -1;
        int[] other = cost.clone();
        for (int c = 0; c <= 50 && regular; c++) {
            other[b] = c;
            if (greatest(ends(other, 1)) <= n) {
                answer = c;
            }
        }
        return answer;
    }
}
