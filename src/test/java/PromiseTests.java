/** Each promise of the document on ordinary inputs, on the edges it names, and on wrong inputs. */
public final class PromiseTests {
    private static final int[] NOT_BLOCKS = {
        -1, 6, 7, -6, 31, 32, 33, 37, 64, -32, -31, Integer.MAX_VALUE, Integer.MIN_VALUE
    };
    private static int wrong = 0;

    public static void main(String[] args) {
        newObject();
        cost();
        bound();
        join();
        cut();
        live();
        dominators();
        regular();
        loop();
        worst();
        worstOfAll();
        least();
        visits();
        costFor();
        orderAndLimits();
        questionsChangeNothing();
        deepestNest();
        System.out.println(wrong == 0 ? "the promises hold" : wrong + " answers are not as due");
        if (wrong != 0) {
            System.exit(1);
        }
    }

    private static void due(String call, int got, int want) {
        if (got != want) {
            wrong++;
            System.out.println(call + " answered " + got + ", due is " + want);
        }
    }

    private static void due(String call, boolean got, boolean want) {
        due(call, got ? 1 : 0, want ? 1 : 0);
    }

    /** A program with the edges given as pairs of digits: 12 is the edge from 1 to 2. */
    private static WorstWalk program(String edges) {
        WorstWalk x = new WorstWalk();
        for (String edge : edges.trim().split(" +")) {
            if (!edge.isEmpty()) {
                x.join(edge.charAt(0) - '0', edge.charAt(1) - '0');
            }
        }
        return x;
    }

    private static void costs(WorstWalk x, int... costs) {
        for (int b = 0; b < costs.length; b++) {
            x.cost(b, costs[b]);
        }
    }

    private static void bounds(WorstWalk x, int... bounds) {
        for (int b = 0; b < bounds.length; b++) {
            x.bound(b, bounds[b]);
        }
    }

    private static void newObject() {
        WorstWalk x = new WorstWalk();
        due("1: NONE", WorstWalk.NONE, -1);
        due("1: live", x.live(), 1);
        due("1: regular", x.regular(), true);
        due("1: worstOfAll", x.worstOfAll(), 0);
        due("1: visits(0)", x.visits(0), 1);
        for (int a = 0; a < 6; a++) {
            for (int b = 0; b < 6; b++) {
                due("1: cut(" + a + ", " + b + ")", x.cut(a, b), false);
            }
        }
        WorstWalk chain = program("01 12 23 34 45");
        due("1: all costs are 0", chain.worst(5), 0);
        for (int b = 0; b < 5; b++) {
            WorstWalk y = program("01 12 23 34 45");
            y.join(5, b);
            due("1: the bound of " + b + " is 1", y.visits(b), 1);
        }
        WorstWalk one = program("01");
        due("1: objects do not share edges", new WorstWalk().live(), 1);
        due("1: the first keeps its own", one.live(), 3);
    }

    private static void cost() {
        WorstWalk x = program("01 12 23 34 45");
        for (int b = 0; b < 6; b++) {
            due("2: cost(" + b + ", 50)", x.cost(b, 50), true);
            due("2: cost(" + b + ", " + (1 << b) + ")", x.cost(b, 1 << b), 1 << b <= 50);
            due("2: cost(" + b + ", 51)", x.cost(b, 51), false);
            due("2: cost(" + b + ", -1)", x.cost(b, -1), false);
            due("2: cost(" + b + ", MAX)", x.cost(b, Integer.MAX_VALUE), false);
            due("2: cost(" + b + ", MIN)", x.cost(b, Integer.MIN_VALUE), false);
        }
        for (int b : NOT_BLOCKS) {
            due("2: cost(" + b + ", 5)", x.cost(b, 5), false);
        }
        int sum = 0;
        for (int b = 0; b < 6; b++) {
            sum += 1 << b;
            due("2: worst(" + b + ") after the wrong ones", x.worst(b), sum);
        }
        due("2: cost(3, 0)", x.cost(3, 0), true);
        due("2: worst(5) with cost 0", x.worst(5), 55);
    }

    private static void bound() {
        WorstWalk x = program("01 10");
        due("3: bound(0, 3)", x.bound(0, 3), true);
        due("3: visits of 3", x.visits(0), 3);
        due("3: bound(0, 1)", x.bound(0, 1), true);
        due("3: visits of 1", x.visits(0), 1);
        due("3: bound(0, 2)", x.bound(0, 2), true);
        int[] wrongBounds = {0, 4, -1, 5, Integer.MAX_VALUE, Integer.MIN_VALUE};
        for (int n : wrongBounds) {
            due("3: bound(0, " + n + ")", x.bound(0, n), false);
        }
        for (int b : NOT_BLOCKS) {
            due("3: bound(" + b + ", 3)", x.bound(b, 3), false);
        }
        due("3: visits after the wrong ones", x.visits(0), 2);
        due("3: bound(5, 3)", x.bound(5, 3), true);
        due("3: bound(5, 1)", x.bound(5, 1), true);
        WorstWalk y = program("01 12 23 34 45");
        bounds(y, 3, 3, 3, 3, 3, 3);
        for (int b = 0; b < 6; b++) {
            due("3: a bound without a loop, visits(" + b + ")", y.visits(b), 1);
        }
    }

    private static void join() {
        WorstWalk x = new WorstWalk();
        due("4: join(0, 5)", x.join(0, 5), true);
        due("4: join(0, 5) again", x.join(0, 5), true);
        due("4: live", x.live(), 33);
        due("4: cut(0, 5)", x.cut(0, 5), true);
        due("4: cut(0, 5) again", x.cut(0, 5), false);
        for (int a = 0; a < 6; a++) {
            due("4: join(" + a + ", " + a + ")", x.join(a, a), false);
            due("4: cut(" + a + ", " + a + ")", x.cut(a, a), false);
            for (int b : NOT_BLOCKS) {
                due("4: join(" + a + ", " + b + ")", x.join(a, b), false);
                due("4: join(" + b + ", " + a + ")", x.join(b, a), false);
            }
        }
        due("4: live after the wrong ones", x.live(), 1);
        for (int a = 0; a < 6; a++) {
            for (int b = 0; b < 6; b++) {
                due("4: nothing put at " + a + ", " + b, x.cut(a, b), false);
            }
        }
        for (int a = 0; a < 6; a++) {
            for (int b = 0; b < 6; b++) {
                due("4: join(" + a + ", " + b + ")", x.join(a, b), a != b);
            }
        }
        for (int a = 0; a < 6; a++) {
            for (int b = 0; b < 6; b++) {
                due("4: cut(" + a + ", " + b + ")", x.cut(a, b), a != b);
            }
        }
    }

    private static void cut() {
        WorstWalk x = program("01 10 12");
        due("5: cut(2, 1)", x.cut(2, 1), false);
        due("5: live", x.live(), 7);
        due("5: cut(1, 2)", x.cut(1, 2), true);
        due("5: live without 1 to 2", x.live(), 3);
        due("5: cut(1, 2) again", x.cut(1, 2), false);
        for (int a = 0; a < 6; a++) {
            for (int b : NOT_BLOCKS) {
                due("5: cut(" + a + ", " + b + ")", x.cut(a, b), false);
                due("5: cut(" + b + ", " + a + ")", x.cut(b, a), false);
            }
        }
        due("5: loop(0) is still there", x.loop(0), 3);
        due("5: cut(0, 1)", x.cut(0, 1), true);
        due("5: the edge back was not cut with it", x.cut(1, 0), true);
        due("5: live at the end", x.live(), 1);
    }

    private static void live() {
        due("6: a chain backwards", program("05 54 43 32 21").live(), 63);
        due("6: blocks apart", program("12 23 31 45").live(), 1);
        due("6: one part", program("02 24 42 13 31 15").live(), 21);
        due("6: an edge to 0 alone", program("10 20 30").live(), 1);
    }

    private static void dominators() {
        WorstWalk x = program("01 02 13 23 34 43");
        due("7: dominators(0)", x.dominators(0), 1);
        due("7: dominators(1)", x.dominators(1), 3);
        due("7: dominators(2)", x.dominators(2), 5);
        due("7: dominators(3)", x.dominators(3), 9);
        due("7: dominators(4)", x.dominators(4), 25);
        due("7: dominators(5), not live", x.dominators(5), 0);
        x.join(5, 4);
        due("7: an edge from a block that is not live", x.dominators(4), 25);
        for (int b : NOT_BLOCKS) {
            due("7: dominators(" + b + ")", x.dominators(b), 0);
        }
        due("7: a chain", program("05 54 43 32 21").dominators(1), 63);
        due("7: a new object", new WorstWalk().dominators(0), 1);
    }

    private static void regular() {
        due("8: two ways into a ring", program("01 02 12 21").regular(), false);
        due("8: one way into it", program("01 12 21").regular(), true);
        due("8: a ring of three with two ways in", program("01 12 23 31 02").regular(), false);
        due("8: a ring that is not live", program("01 23 32 34 42").regular(), true);
        due("8: a way in from a block that is not live", program("01 12 21 52").regular(), true);
        due("8: all edges to 0", program("01 12 23 34 45 10 20 30 40 50").regular(), true);
        due("8: a ring far in", program("01 12 13 34 43 24").regular(), false);
        due("8: a net without rings", program("01 02 03 12 13 23 34 45 35").regular(), true);
    }

    private static void loop() {
        WorstWalk x = program("01 12 23 31 14 42 25 53");
        due("9: loop(1)", x.loop(1), 62);
        due("9: loop(2)", x.loop(2), 0);
        due("9: loop(0)", x.loop(0), 0);
        WorstWalk two = program("01 12 21 13 31 34 15");
        due("9: two back edges to one block", two.loop(1), 14);
        WorstWalk dead = program("01 12 21 32 31 13");
        due("9: loop(1) with 3 live", dead.loop(1), 14);
        dead.cut(1, 3);
        due("9: loop(1) with 3 not live", dead.loop(1), 6);
        WorstWalk apart = program("23 32");
        due("9: loop(2), not live", apart.loop(2), 0);
        due("9: loop(3), not live", apart.loop(3), 0);
        for (int h : NOT_BLOCKS) {
            due("9: loop(" + h + ")", x.loop(h), 0);
            due("9: loop(" + h + ") with a loop at 0", program("01 10").loop(h), 0);
        }
    }

    private static void worst() {
        WorstWalk x = program("01 12 21 23");
        costs(x, 1, 10, 20, 5, 50, 50);
        bounds(x, 3, 2, 3, 3);
        due("10: worst(0)", x.worst(0), 1);
        due("10: worst(1)", x.worst(1), 41);
        due("10: worst(2)", x.worst(2), 61);
        due("10: worst(3)", x.worst(3), 66);
        due("10: worst(4), not live", x.worst(4), -1);
        for (int b : NOT_BLOCKS) {
            due("10: worst(" + b + ")", x.worst(b), -1);
        }
        x.join(4, 2);
        due("10: an edge from a block that is not live", x.worst(3), 66);
        x.join(0, 2);
        due("10: worst(0), not regular", x.worst(0), -1);
        due("10: worst(3), not regular", x.worst(3), -1);
        WorstWalk again = program("01 12 21 10");
        costs(again, 0, 1, 0);
        bounds(again, 2, 3, 1);
        due("10: the inner count begins again", again.worst(2), 6);
        WorstWalk siblings = program("01 12 21 13 34 43");
        costs(siblings, 1, 2, 3, 4, 5);
        bounds(siblings, 1, 3, 1, 2);
        due("10: two loops, one after the other", siblings.worst(4), 31);
    }

    private static void worstOfAll() {
        WorstWalk x = program("01 02 23");
        costs(x, 3, 40, 10, 20);
        due("11: the walk may end anywhere", x.worstOfAll(), 43);
        x.cost(3, 31);
        due("11: the longer one", x.worstOfAll(), 44);
        x.cost(5, 50);
        due("11: not by blocks that are not live", x.worstOfAll(), 44);
        x.join(1, 2);
        x.join(2, 1);
        due("11: not regular", x.worstOfAll(), -1);
        WorstWalk back = program("01 10");
        costs(back, 50, 0);
        back.bound(0, 2);
        due("11: a walk that ends at 0", back.worstOfAll(), 100);
    }

    private static void least() {
        WorstWalk x = program("01 13 02 23 31 34");
        x.cut(3, 1);
        costs(x, 2, 30, 7, 4, 0);
        bounds(x, 3, 3, 3, 3);
        due("12: least(0)", x.least(0), 2);
        due("12: least(1)", x.least(1), 32);
        due("12: least(3)", x.least(3), 13);
        due("12: least(4)", x.least(4), 13);
        due("12: least(5), not live", x.least(5), -1);
        x.join(3, 0);
        due("12: a loop makes it no dearer", x.least(4), 13);
        for (int b : NOT_BLOCKS) {
            due("12: least(" + b + ")", x.least(b), -1);
        }
        x.join(1, 2);
        x.join(2, 1);
        due("12: not regular", x.least(0), -1);
        WorstWalk longer = program("05 01 12 25");
        costs(longer, 1, 0, 0, 0, 0, 9);
        due("12: the short way", longer.least(5), 10);
        due("12: a block of cost 0", longer.least(2), 1);
    }

    private static void visits() {
        WorstWalk x = program("01 12 21 23 31 20");
        bounds(x, 2, 3, 1, 1);
        due("13: visits(0)", x.visits(0), 2);
        due("13: visits(1)", x.visits(1), 6);
        due("13: visits(2)", x.visits(2), 6);
        due("13: visits(3)", x.visits(3), 5);
        due("13: visits(4), not live", x.visits(4), 0);
        costs(x, 50, 0, 0, 0);
        due("13: costs do not matter", x.visits(3), 5);
        for (int b : NOT_BLOCKS) {
            due("13: visits(" + b + ")", x.visits(b), 0);
        }
        x.join(0, 3);
        x.join(1, 3);
        x.cut(3, 1);
        x.join(3, 2);
        due("13: not regular", x.visits(1), -1);
        due("13: not regular, at 0", x.visits(0), -1);
    }

    private static void costFor() {
        WorstWalk x = program("01 12 21 23");
        costs(x, 1, 10, 20, 5, 50, 50);
        bounds(x, 1, 2);
        due("14: as it is", x.costFor(1, 66), 10);
        due("14: one less", x.costFor(1, 65), 9);
        due("14: one more, not enough for two visits", x.costFor(1, 67), 10);
        due("14: two more", x.costFor(1, 68), 11);
        due("14: cost 0", x.costFor(1, 46), 0);
        due("14: none", x.costFor(1, 45), -1);
        due("14: at most 50", x.costFor(1, 146), 50);
        due("14: below 50", x.costFor(1, 145), 49);
        due("14: MAX", x.costFor(1, Integer.MAX_VALUE), 50);
        due("14: MIN", x.costFor(1, Integer.MIN_VALUE), -1);
        due("14: -1", x.costFor(1, -1), -1);
        due("14: not live", x.costFor(4, 66), 50);
        due("14: not live, none", x.costFor(4, 65), -1);
        for (int b : NOT_BLOCKS) {
            due("14: costFor(" + b + ", 1000)", x.costFor(b, 1000), -1);
        }
        due("14: nothing was changed", x.worst(3), 66);
        WorstWalk fork = program("01 02");
        costs(fork, 1, 30, 2);
        due("14: the other walk is within n", fork.costFor(2, 40), 39);
        due("14: the other walk is above n", fork.costFor(2, 30), -1);
        WorstWalk free = new WorstWalk();
        due("14: n = 0", free.costFor(0, 0), 0);
        due("14: n = -1", free.costFor(0, -1), -1);
        x.join(0, 2);
        due("14: not regular", x.costFor(1, 1000), -1);
        due("14: not regular, not live", x.costFor(5, 1000), -1);
    }

    private static void orderAndLimits() {
        WorstWalk x = program("01 02 12 21 13 34 43");
        due("15: not regular", x.regular(), false);
        due("15: visits(5), not live", x.visits(5), 0);
        for (int b : NOT_BLOCKS) {
            due("15: visits(" + b + ")", x.visits(b), 0);
        }
        due("15: visits(3)", x.visits(3), -1);
        due("15: dominators(4)", x.dominators(4), 27);
        due("15: dominators(2)", x.dominators(2), 5);
        due("15: dominators(5)", x.dominators(5), 0);
        due("15: loop(3)", x.loop(3), 24);
        due("15: loop(1)", x.loop(1), 0);
        x.join(4, 0);
        due("15: loop(0)", x.loop(0), 31);
        x.cut(0, 2);
        due("15: regular", x.regular(), true);
        due("15: loop(3) when regular", x.loop(3), 24);
        due("15: dominators(4) when regular", x.dominators(4), 27);
    }

    private static void questionsChangeNothing() {
        WorstWalk x = program("01 12 21 23 30");
        costs(x, 1, 2, 3, 4);
        bounds(x, 2, 3);
        for (int round = 0; round < 3; round++) {
            due("costFor(1, 0)", x.costFor(1, 0), -1);
            due("visits(1)", x.visits(1), 6);
            due("least(3)", x.least(3), 10);
            due("worst(3)", x.worst(3), 40);
            due("worstOfAll()", x.worstOfAll(), 40);
            due("loop(0)", x.loop(0), 15);
            due("worst(1)", x.worst(1), 36 - 3);
            due("costFor(2, 40)", x.costFor(2, 40), 3);
        }
    }

    private static void deepestNest() {
        WorstWalk x = program("01 12 23 34 45 54 53 52 51 50");
        costs(x, 50, 50, 50, 50, 50, 50);
        bounds(x, 3, 3, 3, 3, 3, 3);
        int visits = 1;
        int sum = 0;
        for (int b = 0; b < 6; b++) {
            visits = b < 5 ? visits * 3 : visits;
            sum += visits;
            due("deepest: visits(" + b + ")", x.visits(b), visits);
        }
        due("deepest: worstOfAll", x.worstOfAll(), 50 * sum);
        due("deepest: least(5)", x.least(5), 300);
        due("deepest: costFor", x.costFor(5, 50 * sum - 243), 49);
    }
}
