/** Each promise of the document on ordinary inputs; its edges are in BoundaryTests. */
public final class PromiseTests extends Checks {
    public static void main(String[] args) {
        newObject();
        cost();
        bound();
        join();
        cut();
        live();
        dominators();
        regular();
        loop();
        worst();
        worstOfAll();
        least();
        visits();
        costFor();
        orderAndLimits();
        questionsChangeNothing();
        endWith("the promises hold");
    }

    private static void newObject() {
        due("1: NONE", WorstWalk.NONE, -1);
        WorstWalk one = program("01");
        due("1: objects do not share edges", new WorstWalk().live(), 1);
        due("1: the first keeps its own", one.live(), 3);
        one.cost(0, 9);
        due("1: objects do not share costs", new WorstWalk().worst(0), 0);
        due("1: the first keeps its own", one.worst(1), 9);
    }

    private static void cost() {
        WorstWalk x = program("01 12 23 34 45");
        int sum = 0;
        for (int b = 0; b < 6; b++) {
            due("2: cost(" + b + ", " + (7 * b + 1) + ")", x.cost(b, 7 * b + 1), true);
            sum += 7 * b + 1;
            due("2: worst(" + b + ")", x.worst(b), sum);
        }
        due("2: cost(3, 2), given anew", x.cost(3, 2), true);
        due("2: worst(5) with it", x.worst(5), sum - 20);
    }

    private static void bound() {
        WorstWalk x = program("01 10 12 21");
        due("3: bound(0, 2)", x.bound(0, 2), true);
        due("3: visits(0)", x.visits(0), 2);
        due("3: visits(1)", x.visits(1), 2);
        due("3: bound(1, 3)", x.bound(1, 3), true);
        due("3: visits(1) with it", x.visits(1), 6);
        due("3: bound(1, 2), given anew", x.bound(1, 2), true);
        due("3: visits(1) with that", x.visits(1), 4);
    }

    private static void join() {
        WorstWalk x = new WorstWalk();
        due("4: join(0, 5)", x.join(0, 5), true);
        due("4: live", x.live(), 33);
        due("4: join(5, 2)", x.join(5, 2), true);
        due("4: live with it", x.live(), 37);
        due("4: join(2, 0)", x.join(2, 0), true);
        due("4: loop(0) with it", x.loop(0), 37);
    }

    private static void cut() {
        WorstWalk x = program("01 10 12");
        due("5: live", x.live(), 7);
        due("5: cut(1, 2)", x.cut(1, 2), true);
        due("5: live without 1 to 2", x.live(), 3);
        due("5: loop(0) is still there", x.loop(0), 3);
        due("5: cut(0, 1)", x.cut(0, 1), true);
        due("5: the edge back was not cut with it", x.cut(1, 0), true);
        due("5: join(0, 1) after it", x.join(0, 1), true);
        due("5: live at the end", x.live(), 3);
    }

    private static void live() {
        due("6: one part", program("02 24 42 13 31 15").live(), 21);
        due("6: two ways", program("01 02 13 23 45").live(), 15);
        due("6: against the numbers", program("04 43 31 52").live(), 27);
    }

    private static void dominators() {
        WorstWalk x = program("01 02 13 23 34 43");
        due("7: dominators(0)", x.dominators(0), 1);
        due("7: dominators(1)", x.dominators(1), 3);
        due("7: dominators(2)", x.dominators(2), 5);
        due("7: dominators(3)", x.dominators(3), 9);
        due("7: dominators(4)", x.dominators(4), 25);
        due("7: against the numbers", program("05 54 43 32 21").dominators(1), 63);
    }

    private static void regular() {
        due("8: two ways into a ring", program("01 02 12 21").regular(), false);
        due("8: one way into it", program("01 12 21").regular(), true);
        due("8: a ring of three with two ways in", program("01 12 23 31 02").regular(), false);
        due("8: a way in from a block that is not live", program("01 12 21 52").regular(), true);
        due("8: all edges to 0", program("01 12 23 34 45 10 20 30 40 50").regular(), true);
        due("8: a ring far in", program("01 12 13 34 43 24").regular(), false);
        due("8: a net without rings", program("01 02 03 12 13 23 34 45 35").regular(), true);
    }

    private static void loop() {
        WorstWalk x = program("01 12 23 31 14 42 25 53");
        due("9: loop(1)", x.loop(1), 62);
        due("9: loop(2)", x.loop(2), 0);
        due("9: loop(0)", x.loop(0), 0);
        due("9: two back edges to one block", program("01 12 21 13 31 34 15").loop(1), 14);
        WorstWalk dead = program("01 12 21 32 31 13");
        due("9: loop(1) with 3 live", dead.loop(1), 14);
        dead.cut(1, 3);
        due("9: loop(1) with 3 not live", dead.loop(1), 6);
    }

    private static void worst() {
        WorstWalk x = program("01 12 21 23");
        costs(x, 1, 10, 20, 5, 50, 50);
        bounds(x, 3, 2, 3, 3);
        due("10: worst(0)", x.worst(0), 1);
        due("10: worst(1)", x.worst(1), 41);
        due("10: worst(2)", x.worst(2), 61);
        due("10: worst(3)", x.worst(3), 66);
        x.join(4, 2);
        due("10: an edge from a block that is not live", x.worst(3), 66);
        WorstWalk again = program("01 12 21 10");
        costs(again, 0, 1, 0);
        bounds(again, 2, 3, 1);
        due("10: the inner count begins again", again.worst(2), 6);
        WorstWalk siblings = program("01 12 21 13 34 43");
        costs(siblings, 1, 2, 3, 4, 5);
        bounds(siblings, 1, 3, 1, 2);
        due("10: two loops, one after the other", siblings.worst(4), 31);
    }

    private static void worstOfAll() {
        WorstWalk x = program("01 02 23");
        costs(x, 3, 40, 10, 20);
        due("11: the walk may end anywhere", x.worstOfAll(), 43);
        x.cost(3, 31);
        due("11: the longer one", x.worstOfAll(), 44);
        x.cost(5, 50);
        due("11: not by blocks that are not live", x.worstOfAll(), 44);
        WorstWalk back = program("01 10");
        costs(back, 50, 0);
        back.bound(0, 2);
        due("11: a walk that ends at 0", back.worstOfAll(), 100);
    }

    private static void least() {
        WorstWalk x = program("01 13 02 23 34");
        costs(x, 2, 30, 7, 4, 0);
        bounds(x, 3, 3, 3, 3);
        due("12: least(0)", x.least(0), 2);
        due("12: least(1)", x.least(1), 32);
        due("12: least(3)", x.least(3), 13);
        due("12: least(4)", x.least(4), 13);
        x.join(3, 0);
        due("12: a loop makes it no dearer", x.least(4), 13);
        WorstWalk longer = program("05 01 12 25");
        costs(longer, 1, 0, 0, 0, 0, 9);
        due("12: the short way", longer.least(5), 10);
        due("12: a block of cost 0", longer.least(2), 1);
    }

    private static void visits() {
        WorstWalk x = program("01 12 21 23 31 20");
        bounds(x, 2, 3, 1, 1);
        due("13: visits(0)", x.visits(0), 2);
        due("13: visits(1)", x.visits(1), 6);
        due("13: visits(2)", x.visits(2), 6);
        due("13: visits(3)", x.visits(3), 5);
        costs(x, 50, 0, 0, 0);
        due("13: costs do not matter", x.visits(3), 5);
    }

    private static void costFor() {
        WorstWalk x = program("01 12 21 23");
        costs(x, 1, 10, 20, 5, 50, 50);
        bounds(x, 1, 2);
        due("14: as it is", x.costFor(1, 66), 10);
        due("14: one less", x.costFor(1, 65), 9);
        due("14: one more, not enough for two visits", x.costFor(1, 67), 10);
        due("14: two more", x.costFor(1, 68), 11);
        due("14: a block visited once", x.costFor(3, 80), 19);
        due("14: not live", x.costFor(4, 66), 50);
    }

    private static void orderAndLimits() {
        WorstWalk x = program("01 02 12 21 13 34 43 40");
        due("15: not regular", x.regular(), false);
        due("15: visits(5), not live", x.visits(5), 0);
        due("15: visits(3)", x.visits(3), -1);
        due("15: dominators(4)", x.dominators(4), 27);
        due("15: loop(3)", x.loop(3), 24);
        due("15: loop(0)", x.loop(0), 31);
        x.cut(0, 2);
        due("15: regular", x.regular(), true);
        due("15: dominators(4) when regular", x.dominators(4), 27);
        due("15: loop(3) when regular", x.loop(3), 24);
        due("15: loop(0) when regular", x.loop(0), 31);
    }

    private static void questionsChangeNothing() {
        WorstWalk x = program("01 12 21 23 30");
        costs(x, 1, 2, 3, 4);
        bounds(x, 2, 3);
        for (int round = 0; round < 3; round++) {
            due("costFor(1, 0)", x.costFor(1, 0), -1);
            due("visits(1)", x.visits(1), 6);
            due("least(3)", x.least(3), 10);
            due("worst(3)", x.worst(3), 40);
            due("worstOfAll()", x.worstOfAll(), 40);
            due("loop(0)", x.loop(0), 15);
            due("worst(1)", x.worst(1), 33);
            due("costFor(2, 40)", x.costFor(2, 40), 3);
        }
    }
}
