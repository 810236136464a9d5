/** What the tests share: comparing answers, making programs, reading all that a program tells. */
abstract class Checks {
    /** Too small, too large, and numbers that a shift or a narrower type would take for a block. */
    static final int[] NOT_BLOCKS = {
        -1, 6, 7, -6, 31, 32, 33, 37, 64, -32, -31, 256, 65536, Integer.MAX_VALUE, Integer.MIN_VALUE
    };

    /** Five loops in one another, each block but the last beginning one. */
    static final String NEST = "01 12 23 34 45 54 53 52 51 50";
    /** The same, with the blocks after 0 the other way round, so that block 5 begins a loop too. */
    static final String NEST_REVERSED = "05 54 43 32 21 12 13 14 15 10";

    private static int wrong = 0;

    static void due(String call, int got, int want) {
        if (got != want) {
            wrong++;
            System.out.println(call + " answered " + got + ", due is " + want);
        }
    }

    static void due(String call, boolean got, boolean want) {
        due(call, got ? 1 : 0, want ? 1 : 0);
    }

    static void same(String what, String got, String want) {
        if (!got.equals(want)) {
            wrong++;
            System.out.println(what + ": it tells\n" + got + "and due is\n" + want);
        }
    }

    static void endWith(String praise) {
        System.out.println(wrong == 0 ? praise : wrong + " answers are not as due");
        if (wrong != 0) {
            System.exit(1);
        }
    }

    /** A program with the edges given as pairs of digits: "12 20" has 1 to 2 and 2 to 0. */
    static WorstWalk program(String edges) {
        WorstWalk x = new WorstWalk();
        for (int i = 0; i + 1 < edges.length(); i += 3) {
            x.join(edges.charAt(i) - '0', edges.charAt(i + 1) - '0');
        }
        return x;
    }

    static WorstWalk withAllEdges() {
        WorstWalk x = new WorstWalk();
        for (int a = 0; a < 6; a++) {
            for (int b = 0; b < 6; b++) {
                x.join(a, b);
            }
        }
        return x;
    }

    static void costs(WorstWalk x, int... costs) {
        for (int b = 0; b < costs.length; b++) {
            x.cost(b, costs[b]);
        }
    }

    static void bounds(WorstWalk x, int... bounds) {
        for (int b = 0; b < bounds.length; b++) {
            x.bound(b, bounds[b]);
        }
    }

    /** The answers to all questions, in 39 calls. */
    static String answers(WorstWalk x) {
        int most = x.worstOfAll();
        StringBuilder text = new StringBuilder("worstOfAll ").append(most);
        text.append(", live ").append(x.live());
        text.append(", regular ").append(x.regular()).append('\n');
        for (int b = 0; b < 6; b++) {
            text.append(b).append(": dominators ").append(x.dominators(b));
            text.append(", loop ").append(x.loop(b));
            text.append(", worst ").append(x.worst(b));
            text.append(", least ").append(x.least(b));
            text.append(", visits ").append(x.visits(b));
            text.append(", costFor ").append(x.costFor(b, most)).append('\n');
        }
        return text.toString();
    }

    /** The answers and the edges, in 75 calls; the edges are cut by being asked for. */
    static String everything(WorstWalk x) {
        StringBuilder text = new StringBuilder(answers(x));
        text.append("edges");
        for (int a = 0; a < 6; a++) {
            for (int b = 0; b < 6; b++) {
                text.append(x.cut(a, b) ? " " + a + b : "");
            }
        }
        return text.append('\n').toString();
    }
}
