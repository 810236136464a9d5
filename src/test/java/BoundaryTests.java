/**
 * A test of its own for each sentence of the document that names a boundary case: what is too small
 * or too large, empty or full, wrapped around or refused. The sentence stands above its test.
 */
public final class BoundaryTests extends Checks {
    private static final int MAX = Integer.MAX_VALUE;
    private static final int MIN = Integer.MIN_VALUE;
    private static final int[] NOT_COSTS = {-1, 51, 52, 256, 65536, -50, MAX, MIN};
    private static final int[] NOT_BOUNDS = {0, 4, 5, -1, -3, 257, 65537, MAX, MIN};

    /** Two ways into the ring of 1 and 2; 3 and 4 are a loop behind it; 5 is not live. */
    private static final String NOT_REGULAR = "01 02 12 21 13 34 43";

    public static void main(String[] args) {
        calls512();
        leastAndMostOfEveryBlock();
        oneEdgeForEveryOrderedPair();
        blockZeroIsTheBeginning();
        blockZeroIsLive();
        edgesFromBlocksNotLive();
        aBlockAndZeroDominate();
        backEdgeOnlyToADominator();
        ringsThatAreRegular();
        ringsThatAreNotRegular();
        noWalksUnlessRegular();
        leastAndMostLoop();
        loopNotThroughItsBlock();
        walkWithoutEdges();
        countsOneMore();
        countsOneAgain();
        countAtTheBeginning();
        countNotAboveTheBound();
        onlyLoopsAreCounted();
        costOfLongestWalk();
        newObject();
        costTakes();
        costRefuses();
        boundTakes();
        boundRefuses();
        joinAgain();
        joinRefuses();
        cutTakesOneEdge();
        cutRefuses();
        liveEmptyAndFull();
        dominatorsOfNone();
        loopOfNone();
        worstOfNone();
        worstOfAllOfNone();
        leastOfNone();
        visitsOfNone();
        costForLimits();
        costForLeavesAllElse();
        costForNone();
        visitsTestsLiveFirst();
        dominatorsAndLoopWhenNotRegular();
        endWith("the boundaries hold");
    }

    /** Its answers show every cost, and every bound but that of the innermost block. */
    private static WorstWalk telling(String edges) {
        WorstWalk x = program(edges);
        costs(x, 1, 2, 3, 5, 7, 11);
        bounds(x, 2, 1, 3, 2, 2, 3);
        return x;
    }

    private static void unchanged(String promise, WorstWalk first, WorstWalk second) {
        same(promise, everything(first), everything(telling(NEST)));
        same(promise + ", reversed", everything(second), everything(telling(NEST_REVERSED)));
    }

    /** "An object is used for at most 512 calls after it has been made". */
    private static void calls512() {
        WorstWalk x = program(NEST);
        costs(x, 50, 50, 50, 50, 50, 50);
        bounds(x, 3, 3, 3, 3, 3, 3);
        boolean there = true;
        for (int call = 23; call <= 512; call += 2) {
            due("call " + call, there ? x.cut(5, 0) : x.join(5, 0), true);
            there = !there;
            due("call " + (call + 1), x.worstOfAll(), there ? 30300 : 10100);
        }
    }

    /** "There are BLOCKS 0 .. 5, each with a cost (0 .. 50) and a bound (1 .. 3)". */
    private static void leastAndMostOfEveryBlock() {
        for (int c = 0; c <= 50; c += 50) {
            for (int n = 1; n <= 3; n += 2) {
                WorstWalk x = program(NEST);
                costs(x, c, c, c, c, c, c);
                bounds(x, n, n, n, n, n, n);
                String call = "every cost " + c + ", every bound " + n + ": worstOfAll()";
                due(call, x.worstOfAll(), c * (n == 1 ? 6 : 606));
            }
        }
    }

    /** "(from a block to a block, at most one for every ordered pair, no block to itself)". */
    private static void oneEdgeForEveryOrderedPair() {
        WorstWalk x = new WorstWalk();
        for (int a = 0; a < 6; a++) {
            for (int b = 0; b < 6; b++) {
                due("full: join(" + a + ", " + b + ")", x.join(a, b), a != b);
                due("full: join(" + a + ", " + b + ") again", x.join(a, b), a != b);
            }
        }
        for (int a = 0; a < 6; a++) {
            for (int b = 0; b < 6; b++) {
                due("full: cut(" + a + ", " + b + ")", x.cut(a, b), a != b);
                due("full: cut(" + a + ", " + b + ") again", x.cut(a, b), false);
            }
        }
    }

    /** "Block 0 is the beginning." */
    private static void blockZeroIsTheBeginning() {
        WorstWalk x = program("10 20 30 40 50");
        costs(x, 4, 50, 50, 50, 50, 50);
        due("beginning: worstOfAll", x.worstOfAll(), 4);
        due("beginning: worst(0)", x.worst(0), 4);
        for (int b = 1; b < 6; b++) {
            due("beginning: worst(" + b + ")", x.worst(b), -1);
        }
    }

    /** "they are the LIVE ones (block 0 is live)": also without an edge. */
    private static void blockZeroIsLive() {
        due("live without an edge", new WorstWalk().live(), 1);
        due("live with edges to 0 alone", program("10 20").live(), 1);
        due("live with edges elsewhere", program("12 23 34 45 51").live(), 1);
    }

    /** "and edges from blocks that are not live do not count". */
    private static void edgesFromBlocksNotLive() {
        WorstWalk x = telling("01 12 21 23");
        String before = answers(x);
        int[][] added = {{4, 5}, {5, 4}, {4, 0}, {4, 1}, {4, 2}, {5, 2}, {5, 3}};
        for (int[] edge : added) {
            x.join(edge[0], edge[1]);
        }
        same("edges from blocks that are not live", answers(x), before);
        WorstWalk ring = telling("12 23 31 13 45 54");
        same("rings that are not live", answers(ring), answers(telling("")));
    }

    /** "(h may be u or 0)". */
    private static void aBlockAndZeroDominate() {
        WorstWalk x = withAllEdges();
        for (int u = 0; u < 6; u++) {
            due("all edges: dominators(" + u + ")", x.dominators(u), 1 | 1 << u);
        }
        WorstWalk chain = program("01 12 23 34 45");
        for (int u = 0; u < 6; u++) {
            due("chain: dominators(" + u + ")", chain.dominators(u), (2 << u) - 1);
        }
    }

    /** "An edge from u to h is a BACK edge when h dominates u." */
    private static void backEdgeOnlyToADominator() {
        for (int u = 1; u < 6; u++) {
            WorstWalk x = program("01 12 23 34 45");
            x.join(u, 0);
            due("an edge to 0 from " + u + " is one", x.loop(0), (2 << u) - 1);
        }
        WorstWalk x = program("01 02 13 23 32");
        due("3 has a way round 2", x.loop(2), 0);
        due("2 has a way round 3", x.loop(3), 0);
        x.cut(1, 3);
        due("3 has none now", x.loop(2), 12);
    }

    /** "REGULAR when there is no ring of edges that are not back edges": there is none. */
    private static void ringsThatAreRegular() {
        due("no edges", new WorstWalk().regular(), true);
        due("the least ring", program("01 10").regular(), true);
        due("the greatest ring", program("01 12 23 34 45 50").regular(), true);
        due("five rings in one another", program(NEST).regular(), true);
        WorstWalk onward = program("01 02 03 04 05 12 13 14 15 23 24 25 34 35 45");
        due("all edges onward", onward.regular(), true);
        due("a ring that is not live", program("12 21").regular(), true);
    }

    /** "REGULAR when there is no ring of edges that are not back edges": there is one. */
    private static void ringsThatAreNotRegular() {
        due("all edges", withAllEdges().regular(), false);
        due("the least ring with two ways in", program("04 05 45 54").regular(), false);
        due("the greatest ring with two ways in", program("01 12 23 34 45 51 03").regular(), false);
        due("a ring in a loop", program("01 12 13 23 32 30").regular(), false);
    }

    /** "Unless it is regular, there are no walks.": not even the one that ends where it begins. */
    private static void noWalksUnlessRegular() {
        WorstWalk x = program(NOT_REGULAR);
        for (int b = 0; b < 6; b++) {
            due("no walks: worst(" + b + ")", x.worst(b), -1);
            due("no walks: least(" + b + ")", x.least(b), -1);
            due("no walks: costFor(" + b + ", MAX)", x.costFor(b, MAX), -1);
        }
        due("no walks: worstOfAll()", x.worstOfAll(), -1);
        x.cut(0, 2);
        due("walks again: worst(3)", x.worst(3), 0);
    }

    /** "The LOOP of a block h that some back edge leads to consists of h and of all blocks ...". */
    private static void leastAndMostLoop() {
        due("two blocks", program("01 10").loop(0), 3);
        due("two blocks, far in", program("01 12 23 34 45 54").loop(4), 48);
        due("all blocks in a row", program("01 12 23 34 45 50").loop(0), 63);
        due("all blocks, each its own way", withAllEdges().loop(0), 63);
        due("back edges from two blocks", program("01 12 13 21 31").loop(1), 14);
        due("a block after the loop", program("01 12 21 13 23").loop(1), 6);
    }

    /** "... come to the beginning of a back edge to h along edges without coming through h". */
    private static void loopNotThroughItsBlock() {
        WorstWalk x = program("01 12 21 13 30");
        due("0 and 3 come to 2 through 1 alone", x.loop(1), 6);
        due("the loop around it", x.loop(0), 15);
        due("none at 2", x.loop(2), 0);
    }

    /** "It VISITS block 0 first": a walk may follow no edge. */
    private static void walkWithoutEdges() {
        WorstWalk x = new WorstWalk();
        x.cost(0, 7);
        due("no edge: worst(0)", x.worst(0), 7);
        due("no edge: least(0)", x.least(0), 7);
        due("no edge: worstOfAll()", x.worstOfAll(), 7);
        due("no edge: visits(0)", x.visits(0), 1);
        x.join(0, 1);
        due("an edge not followed: worst(0)", x.worst(0), 7);
        due("an edge not followed: least(0)", x.least(0), 7);
    }

    /** "a visit by a back edge to h counts one more than the visit of h before it". */
    private static void countsOneMore() {
        WorstWalk x = program("01 12 21 13 31");
        for (int bound = 1; bound <= 3; bound++) {
            x.bound(1, bound);
            due("two back edges share a count of " + bound, x.visits(1), bound);
        }
        WorstWalk inner = program("01 12 23 32 21");
        bounds(inner, 1, 2, 3);
        due("the inner loop leaves the outer count", inner.visits(1), 2);
        due("the inner loop in each round", inner.visits(2), 6);
    }

    /** "any other visit of h (by another edge, ...) counts 1 again". */
    private static void countsOneAgain() {
        WorstWalk x = program("01 12 21 20");
        for (int outer = 1; outer <= 3; outer++) {
            for (int inner = 1; inner <= 3; inner++) {
                bounds(x, outer, inner);
                String call = "bounds " + outer + " and " + inner + ": visits(";
                due(call + "0)", x.visits(0), outer);
                due(call + "1)", x.visits(1), outer * inner);
            }
        }
    }

    /** "any other visit of h (..., or at the beginning) counts 1 again". */
    private static void countAtTheBeginning() {
        WorstWalk x = program("01 10");
        costs(x, 5, 7);
        due("bound 1: worst(0)", x.worst(0), 5);
        due("bound 1: worst(1)", x.worst(1), 12);
        x.bound(0, 2);
        due("bound 2: worst(0)", x.worst(0), 17);
        due("bound 2: worst(1)", x.worst(1), 24);
    }

    /** "No count may be above the bound of h." */
    private static void countNotAboveTheBound() {
        for (int h = 0; h < 5; h++) {
            WorstWalk x = program("01 12 23 34 45");
            x.join(5, h);
            costs(x, 1, 1, 1, 1, 1, 1);
            for (int bound = 1; bound <= 3; bound++) {
                x.bound(h, bound);
                String call = "bound " + bound + " of " + h + ": ";
                due(call + "visits", x.visits(h), bound);
                due(call + "worst there", x.worst(h), h + 1 + (bound - 1) * (6 - h));
                due(call + "worst behind it", x.worst(5), h + bound * (6 - h));
            }
        }
    }

    /** "For every block h with a loop, the visits of h are counted": of no other block. */
    private static void onlyLoopsAreCounted() {
        WorstWalk x = program("01 12 21");
        bounds(x, 1, 3, 1);
        due("bound 1 without a loop", x.visits(2), 3);
        WorstWalk chain = program("01 12 23 34 45");
        bounds(chain, 3, 3, 3, 3, 3, 3);
        for (int b = 0; b < 6; b++) {
            due("bound 3 without a loop: visits(" + b + ")", chain.visits(b), 1);
        }
    }

    /** "The COST of a walk is the sum of the costs of its visits.": all at their most. */
    private static void costOfLongestWalk() {
        WorstWalk x = program(NEST);
        costs(x, 50, 50, 50, 50, 50, 50);
        bounds(x, 3, 3, 3, 3, 3, 3);
        int visits = 1;
        int sum = 0;
        for (int b = 0; b < 6; b++) {
            visits = b < 5 ? visits * 3 : visits;
            sum += visits;
            due("longest: visits(" + b + ")", x.visits(b), visits);
        }
        due("longest: worstOfAll", x.worstOfAll(), 50 * sum);
        due("longest: worst(5)", x.worst(5), 50 * sum);
        due("longest: least(5)", x.least(5), 300);
        due("longest: costFor", x.costFor(5, 50 * sum - 243), 49);
        due("longest: costFor, one too few", x.costFor(5, 50 * sum - 244), 48);
    }

    /** "All costs are 0, all bounds 1, no edges." */
    private static void newObject() {
        WorstWalk x = new WorstWalk();
        for (int a = 0; a < 6; a++) {
            for (int b = 0; b < 6; b++) {
                due("new: cut(" + a + ", " + b + ")", x.cut(a, b), false);
            }
        }
        due("new: worstOfAll", x.worstOfAll(), 0);
        WorstWalk given = program(NEST);
        costs(given, 0, 0, 0, 0, 0, 0);
        bounds(given, 1, 1, 1, 1, 1, 1);
        same("new", everything(program(NEST)), everything(given));
        WorstWalk turned = program(NEST_REVERSED);
        costs(turned, 0, 0, 0, 0, 0, 0);
        bounds(turned, 1, 1, 1, 1, 1, 1);
        same("new, reversed", everything(program(NEST_REVERSED)), everything(turned));
    }

    /** "Gives block b a cost and answers true": the most, and the least in its place. */
    private static void costTakes() {
        WorstWalk x = program("01 12 23 34 45");
        for (int b = 0; b < 6; b++) {
            due("cost(" + b + ", 50)", x.cost(b, 50), true);
            due("worst(5) with it", x.worst(5), 50);
            due("cost(" + b + ", 0)", x.cost(b, 0), true);
            due("worst(5) without it", x.worst(5), 0);
        }
        due("cost of a block that is not live", program("12").cost(5, 50), true);
    }

    /** "false, changing nothing, when b is not 0 .. 5 or c is not 0 .. 50". */
    private static void costRefuses() {
        WorstWalk first = telling(NEST);
        WorstWalk second = telling(NEST_REVERSED);
        for (int c : NOT_COSTS) {
            for (int b = 0; b < 6; b++) {
                due("cost(" + b + ", " + c + ")", first.cost(b, c), false);
                due("cost(" + b + ", " + c + ")", second.cost(b, c), false);
            }
        }
        for (int b : NOT_BLOCKS) {
            due("cost(" + b + ", 0)", first.cost(b, 0), false);
            due("cost(" + b + ", 50)", second.cost(b, 50), false);
            due("cost(" + b + ", 51)", second.cost(b, 51), false);
        }
        unchanged("after the refused costs", first, second);
    }

    /** "Gives block b a bound and answers true": the most, and the least in its place. */
    private static void boundTakes() {
        for (int b = 0; b < 6; b++) {
            WorstWalk x = program(b == 5 ? NEST_REVERSED : NEST);
            due("bound(" + b + ", 3)", x.bound(b, 3), true);
            due("visits(" + b + ") with it", x.visits(b), 3);
            due("bound(" + b + ", 1)", x.bound(b, 1), true);
            due("visits(" + b + ") without it", x.visits(b), 1);
        }
        due("bound of a block that is not live", program("12").bound(5, 3), true);
    }

    /** "false, changing nothing, when b is not 0 .. 5 or n is not 1 .. 3". */
    private static void boundRefuses() {
        WorstWalk first = telling(NEST);
        WorstWalk second = telling(NEST_REVERSED);
        for (int n : NOT_BOUNDS) {
            for (int b = 0; b < 6; b++) {
                due("bound(" + b + ", " + n + ")", first.bound(b, n), false);
                due("bound(" + b + ", " + n + ")", second.bound(b, n), false);
            }
        }
        for (int b : NOT_BLOCKS) {
            due("bound(" + b + ", 1)", first.bound(b, 1), false);
            due("bound(" + b + ", 3)", second.bound(b, 3), false);
            due("bound(" + b + ", 4)", second.bound(b, 4), false);
        }
        unchanged("after the refused bounds", first, second);
    }

    /** "Puts an edge from a to b and answers true (also when it is there already)". */
    private static void joinAgain() {
        WorstWalk x = telling(NEST);
        for (int a = 0; a < 5; a++) {
            due("join(" + a + ", " + (a + 1) + ") again", x.join(a, a + 1), true);
            due("join(5, " + a + ") again", x.join(5, a), true);
        }
        same("joined again", everything(x), everything(telling(NEST)));
    }

    /** "false, changing nothing, when a = b or a or b is not 0 .. 5". */
    private static void joinRefuses() {
        WorstWalk first = telling(NEST);
        WorstWalk second = telling(NEST_REVERSED);
        for (int a = 0; a < 6; a++) {
            due("join(" + a + ", " + a + ")", first.join(a, a), false);
            for (int b : NOT_BLOCKS) {
                due("join(" + a + ", " + b + ")", first.join(a, b), false);
                due("join(" + b + ", " + a + ")", second.join(b, a), false);
            }
        }
        for (int b : NOT_BLOCKS) {
            due("join(" + b + ", " + b + ")", first.join(b, b), false);
            due("join(" + b + ", -1)", second.join(b, -1), false);
        }
        unchanged("after the refused joins", first, second);
    }

    /** "Takes the edge from a to b away and answers true": that edge alone. */
    private static void cutTakesOneEdge() {
        for (int a = 0; a < 6; a++) {
            for (int b = 0; b < 6; b++) {
                WorstWalk x = withAllEdges();
                due("cut(" + a + ", " + b + ")", x.cut(a, b), a != b);
                int left = 0;
                for (int edge = 0; edge < 36; edge++) {
                    left += x.cut(edge / 6, edge % 6) ? 1 : 0;
                }
                due("edges left by cut(" + a + ", " + b + ")", left, a != b ? 29 : 30);
            }
        }
    }

    /** "false, changing nothing, when there is none". */
    private static void cutRefuses() {
        WorstWalk first = telling(NEST);
        WorstWalk second = telling(NEST_REVERSED);
        for (int a = 0; a < 6; a++) {
            due("cut(" + a + ", " + a + ")", first.cut(a, a), false);
            for (int b : NOT_BLOCKS) {
                due("cut(" + a + ", " + b + ")", first.cut(a, b), false);
                due("cut(" + b + ", " + a + ")", second.cut(b, a), false);
            }
        }
        for (int a = 1; a < 5; a++) {
            due("cut(" + a + ", " + (a - 1) + "), the other way", first.cut(a, a - 1), false);
        }
        first.join(0, 2);
        due("cut(0, 2), there", first.cut(0, 2), true);
        due("cut(0, 2), cut already", first.cut(0, 2), false);
        unchanged("after the refused cuts", first, second);
        due("cut(0, 1) of a new object", new WorstWalk().cut(0, 1), false);
    }

    /** "The live blocks: bit b for block b.": none but 0, each alone, all. */
    private static void liveEmptyAndFull() {
        due("live, empty", new WorstWalk().live(), 1);
        due("live, full", withAllEdges().live(), 63);
        due("live, a row", program("01 12 23 34 45").live(), 63);
        due("live, a row the other way", program("05 54 43 32 21").live(), 63);
        for (int b = 1; b < 6; b++) {
            due("live, 0 and " + b, program("0" + b).live(), 1 | 1 << b);
        }
    }

    /** "0 when b is not live or not 0 .. 5" (dominators). */
    private static void dominatorsOfNone() {
        WorstWalk x = program("01 10 23 32 24 40");
        for (int b = 2; b < 6; b++) {
            due("not live: dominators(" + b + ")", x.dominators(b), 0);
        }
        for (int b : NOT_BLOCKS) {
            due("no block: dominators(" + b + ")", x.dominators(b), 0);
            due("no block: dominators(" + b + ") of all", program(NEST).dominators(b), 0);
        }
    }

    /** "0 when no back edge leads to h, or h is not 0 .. 5". */
    private static void loopOfNone() {
        WorstWalk x = program("01 12 13 23 31 45 54");
        for (int h = 0; h < 6; h++) {
            due("loop(" + h + ")", x.loop(h), h == 1 ? 14 : 0);
            due("new: loop(" + h + ")", new WorstWalk().loop(h), 0);
            due("all edges: loop(" + h + ")", withAllEdges().loop(h), h == 0 ? 63 : 0);
        }
        for (int h : NOT_BLOCKS) {
            due("no block: loop(" + h + ")", x.loop(h), 0);
            due("no block: loop(" + h + ") of the nest", program(NEST).loop(h), 0);
        }
    }

    /** "NONE when there is none" (worst); a walk that costs nothing is one. */
    private static void worstOfNone() {
        WorstWalk x = new WorstWalk();
        due("new: worst(0)", x.worst(0), 0);
        for (int b = 1; b < 6; b++) {
            due("not live: worst(" + b + ")", x.worst(b), -1);
        }
        for (int b : NOT_BLOCKS) {
            due("no block: worst(" + b + ")", x.worst(b), -1);
            due("no block: worst(" + b + ") of the nest", program(NEST).worst(b), -1);
        }
        WorstWalk ring = withAllEdges();
        for (int b = 0; b < 6; b++) {
            due("not regular: worst(" + b + ")", ring.worst(b), -1);
        }
    }

    /** "NONE when the program is not regular" (worstOfAll); never otherwise. */
    private static void worstOfAllOfNone() {
        due("new: worstOfAll()", new WorstWalk().worstOfAll(), 0);
        due("all edges: worstOfAll()", withAllEdges().worstOfAll(), -1);
        WorstWalk x = program("01 02 12 21");
        x.cost(0, 50);
        due("not regular: worstOfAll()", x.worstOfAll(), -1);
        x.cut(2, 1);
        due("regular again: worstOfAll()", x.worstOfAll(), 50);
    }

    /** "NONE when there is none" (least); a walk that costs nothing is one. */
    private static void leastOfNone() {
        WorstWalk x = new WorstWalk();
        due("new: least(0)", x.least(0), 0);
        for (int b = 1; b < 6; b++) {
            due("not live: least(" + b + ")", x.least(b), -1);
        }
        for (int b : NOT_BLOCKS) {
            due("no block: least(" + b + ")", x.least(b), -1);
            due("no block: least(" + b + ") of the nest", program(NEST).least(b), -1);
        }
        WorstWalk ring = withAllEdges();
        for (int b = 0; b < 6; b++) {
            due("not regular: least(" + b + ")", ring.least(b), -1);
        }
    }

    /** "0 when b is not live or not 0 .. 5; NONE when the program is not regular" (visits). */
    private static void visitsOfNone() {
        WorstWalk x = program("01 23 32 20");
        due("visits(1), visited once", x.visits(1), 1);
        for (int b = 2; b < 6; b++) {
            due("not live: visits(" + b + ")", x.visits(b), 0);
        }
        for (int b : NOT_BLOCKS) {
            due("no block: visits(" + b + ")", x.visits(b), 0);
            due("no block: visits(" + b + ") of the nest", program(NEST).visits(b), 0);
        }
        WorstWalk ring = withAllEdges();
        for (int b = 0; b < 6; b++) {
            due("not regular: visits(" + b + ")", ring.visits(b), -1);
        }
    }

    /** "... cost that block b could have (0 .. 50), ... so that no walk would cost more". */
    private static void costForLimits() {
        WorstWalk x = program("01 12 21 23");
        costs(x, 1, 10, 20, 5, 50, 50);
        bounds(x, 1, 2);
        due("costFor, cost 0 is still too much", x.costFor(1, 45), -1);
        due("costFor, 0", x.costFor(1, 46), 0);
        due("costFor, one short of two visits", x.costFor(1, 47), 0);
        due("costFor, two visits", x.costFor(1, 48), 1);
        due("costFor, 49", x.costFor(1, 145), 49);
        due("costFor, 50", x.costFor(1, 146), 50);
        due("costFor, never 51", x.costFor(1, 148), 50);
        due("costFor, MAX", x.costFor(1, MAX), 50);
        due("costFor, -1", x.costFor(1, -1), -1);
        due("costFor, MIN", x.costFor(1, MIN), -1);
        WorstWalk empty = new WorstWalk();
        due("new: costFor(0, 0)", empty.costFor(0, 0), 0);
        due("new: costFor(0, -1)", empty.costFor(0, -1), -1);
        due("new: costFor(0, 50)", empty.costFor(0, 50), 50);
        due("new: costFor(0, 51)", empty.costFor(0, 51), 50);
    }

    /** "all else as it is": the block's own cost does not matter, and nothing is changed. */
    private static void costForLeavesAllElse() {
        for (int own = 0; own <= 50; own += 25) {
            WorstWalk x = program("01 02");
            costs(x, 1, 30, own);
            due("costFor beside cost " + own, x.costFor(2, 40), 39);
            due("costFor, its own cost " + own, x.worst(2), 1 + own);
            due("costFor, another walk costs n", x.costFor(2, 31), 30);
            due("costFor, another walk costs more", x.costFor(2, 30), -1);
            due("costFor, its own cost still " + own, x.worst(2), 1 + own);
            due("costFor, not live, within n", x.costFor(5, 1 + Math.max(30, own)), 50);
            due("costFor, not live, above n", x.costFor(5, Math.max(30, own)), -1);
        }
        WorstWalk x = telling(NEST);
        for (int b = 0; b < 6; b++) {
            x.costFor(b, 20);
        }
        same("after costFor", everything(x), everything(telling(NEST)));
    }

    /** "NONE when there is none, b is not 0 .. 5, or the program is not regular" (costFor). */
    private static void costForNone() {
        WorstWalk x = program(NEST);
        for (int b : NOT_BLOCKS) {
            due("no block: costFor(" + b + ", MAX)", x.costFor(b, MAX), -1);
            due("no block: costFor(" + b + ", 0)", x.costFor(b, 0), -1);
        }
        WorstWalk ring = withAllEdges();
        WorstWalk part = program("01 02 12 21");
        for (int b = 0; b < 6; b++) {
            due("none: costFor(" + b + ", -1)", x.costFor(b, -1), -1);
            due("not regular: costFor(" + b + ", MAX)", ring.costFor(b, MAX), -1);
            due("not regular, in part: costFor(" + b + ", MAX)", part.costFor(b, MAX), -1);
        }
    }

    /** "that b is not live or not 0 .. 5 (0) is tested before that the program is not regular". */
    private static void visitsTestsLiveFirst() {
        WorstWalk x = program(NOT_REGULAR);
        due("visits(5), not live and not regular", x.visits(5), 0);
        for (int b : NOT_BLOCKS) {
            due("no block and not regular: visits(" + b + ")", x.visits(b), 0);
        }
        for (int b = 0; b < 5; b++) {
            due("not regular: visits(" + b + ")", x.visits(b), -1);
        }
    }

    /** "dominators and loop are the same whether the program is regular or not". */
    private static void dominatorsAndLoopWhenNotRegular() {
        WorstWalk x = program(NOT_REGULAR);
        int[] dominators = {1, 3, 5, 11, 27, 0};
        int[] loops = {0, 0, 0, 24, 0, 0};
        due("not regular", x.regular(), false);
        for (int b = 0; b < 6; b++) {
            due("not regular: dominators(" + b + ")", x.dominators(b), dominators[b]);
            due("not regular: loop(" + b + ")", x.loop(b), loops[b]);
        }
        x.cut(2, 1);
        due("regular", x.regular(), true);
        for (int b = 0; b < 6; b++) {
            due("regular: dominators(" + b + ")", x.dominators(b), dominators[b]);
            due("regular: loop(" + b + ")", x.loop(b), loops[b]);
        }
    }
}
