/** Finds the costliest walk through a small program whose loops have bounds. */
public final class WorstWalk {
    public static final int NONE = -1;

    private static final int BLOCKS = 6;
    private static final int MOST_COST = 50;
    private static final int MOST_BOUND = 3;

    // A bound is at most 3, so a count fits into two bits.
    private static final int COUNT_BITS = 2;
    private static final int COUNT_MASK = 3;
    private static final int STATES = 1 << (BLOCKS * COUNT_BITS);
    private static final int START = 1 << ((BLOCKS - 1) * COUNT_BITS);

    private final int[] costs = new int[BLOCKS];
    private final int[] bounds = new int[BLOCKS];
    /** For each block, the ends of the edges from it: bit b for block b. */
    private final int[] edges = new int[BLOCKS];

    // What follows is worked out anew by every question; nothing in it lasts from call to call.

    /** For each live block, the ends of the edges from it that are not back edges. */
    private final int[] ahead = new int[BLOCKS];
    /** The live blocks in an order in which each edge leads onward unless it is a back edge. */
    private final int[] blockAt = new int[BLOCKS];
    private final int[] placeOf = new int[BLOCKS];
    /** What a visit of each block adds to the weight of a walk. */
    private final int[] weights = new int[BLOCKS];

    /*
     * The state of a walk is a number of six digits, one for each place of blockAt, the first
     * place's digit being the highest: the count of the block there. A visit sets all digits after
     * its own to 0. That loses nothing: a loop whose first block stands later in the order does not
     * contain the block visited, so it can only be entered anew, and its count is then 1 again.
     * The last digit that is not 0 is therefore the block the walk is at, and every step, onward or
     * back, adds 1 to one digit and clears those after it. So a step always leads to a higher
     * state, and one pass over the states from low to high sees each after all that lead to it.
     * Blocks without a loop are counted too, but their counts never come above 1.
     */
    private final int[] heaviest = new int[STATES];
    private final int[] lightest = new int[STATES];

    public WorstWalk() {
        for (int b = 0; b < BLOCKS; b++) {
            bounds[b] = 1;
        }
    }

    public boolean cost(int b, int c) {
        if (!isBlock(b) || c < 0 || c > MOST_COST) {
            return false;
        }
        costs[b] = c;
        return true;
    }

    public boolean bound(int b, int n) {
        if (!isBlock(b) || n < 1 || n > MOST_BOUND) {
            return false;
        }
        bounds[b] = n;
        return true;
    }

    public boolean join(int a, int b) {
        if (!isBlock(a) || !isBlock(b) || a == b) {
            return false;
        }
        edges[a] |= 1 << b;
        return true;
    }

    public boolean cut(int a, int b) {
        if (!isBlock(a) || !isBlock(b) || !has(edges[a], b)) {
            return false;
        }
        edges[a] &= ~(1 << b);
        return true;
    }

    public int live() {
        return reachedWithout(0);
    }

    public int dominators(int b) {
        if (!isBlock(b)) {
            return 0;
        }
        int all = reachedWithout(0);
        int found = 0;
        for (int h = 0; h < BLOCKS; h++) {
            // Taken from the live blocks, so that a block that is not live has no dominator.
            int cutOff = all & ~reachedWithout(1 << h);
            if (has(cutOff, b)) {
                found |= 1 << h;
            }
        }
        return found;
    }

    public boolean regular() {
        return orderBlocks();
    }

    public int loop(int h) {
        if (!isBlock(h)) {
            return 0;
        }
        int body = beginningsOfBackEdges(h);
        if (body == 0) {
            return 0;
        }
        int others = live() & ~(1 << h);
        for (int round = 0; round < BLOCKS; round++) {
            for (int b = 0; b < BLOCKS; b++) {
                if (has(others, b) && (edges[b] & body) != 0) {
                    body |= 1 << b;
                }
            }
        }
        return body | 1 << h;
    }

    public int worst(int b) {
        if (!orderBlocks()) {
            return NONE;
        }
        weighByCost();
        weighWalks();
        return heaviestEndingAt(b);
    }

    public int worstOfAll() {
        if (!orderBlocks()) {
            return NONE;
        }
        weighByCost();
        weighWalks();
        return heaviestOfAll();
    }

    public int least(int b) {
        if (!orderBlocks()) {
            return NONE;
        }
        weighByCost();
        weighWalks();
        return lightestEndingAt(b);
    }

    public int visits(int b) {
        if (!isLive(b)) {
            return 0;
        }
        if (!orderBlocks()) {
            return NONE;
        }
        weighByVisitsOf(b);
        weighWalks();
        return heaviestOfAll();
    }

    public int costFor(int b, int n) {
        if (!isBlock(b) || !orderBlocks()) {
            return NONE;
        }
        weighByCost();
        for (int c = MOST_COST; c >= 0; c--) {
            weights[b] = c;
            weighWalks();
            if (heaviestOfAll() <= n) {
                return c;
            }
        }
        return NONE;
    }

    private static boolean isBlock(int b) {
        return b >= 0 && b < BLOCKS;
    }

    private static boolean has(int blocks, int b) {
        return (blocks >> b & 1) != 0;
    }

    private boolean isLive(int b) {
        if (!isBlock(b)) {
            return false;
        }
        int all = live();
        return has(all, b);
    }

    /** The blocks that can be come to from block 0 without coming through a barred one. */
    private int reachedWithout(int barred) {
        int reached = 1 & ~barred;
        for (int round = 0; round < BLOCKS; round++) {
            for (int a = 0; a < BLOCKS; a++) {
                if (has(reached, a)) {
                    reached |= edges[a] & ~barred;
                }
            }
        }
        return reached;
    }

    private int beginningsOfBackEdges(int h) {
        int found = 0;
        for (int u = 0; u < BLOCKS; u++) {
            int back = edges[u] & dominators(u);
            if (has(back, h)) {
                found |= 1 << u;
            }
        }
        return found;
    }

    /** Fills blockAt and placeOf, and answers whether every live block found its place. */
    private boolean orderBlocks() {
        findEdgesAhead();
        int waiting = live();
        for (int place = 0; place < BLOCKS; place++) {
            int b = firstBlockOf(waiting);
            if (b != NONE) {
                blockAt[place] = b;
                placeOf[b] = place;
                waiting &= ~(1 << b);
            }
        }
        return waiting == 0;
    }

    private void findEdgesAhead() {
        for (int a = 0; a < BLOCKS; a++) {
            ahead[a] = edges[a] & ~dominators(a);
        }
    }

    /** A waiting block that no edge ahead from a waiting block leads to; NONE when there is none. */
    private int firstBlockOf(int waiting) {
        int ledTo = 0;
        for (int a = 0; a < BLOCKS; a++) {
            if (has(waiting, a)) {
                ledTo |= ahead[a];
            }
        }
        int free = waiting & ~ledTo;
        for (int b = 0; b < BLOCKS; b++) {
            if (has(free, b)) {
                return b;
            }
        }
        return NONE;
    }

    private void weighByCost() {
        for (int b = 0; b < BLOCKS; b++) {
            weights[b] = costs[b];
        }
    }

    private void weighByVisitsOf(int counted) {
        for (int b = 0; b < BLOCKS; b++) {
            weights[b] = b == counted ? 1 : 0;
        }
    }

    /** Finds, for every state, the greatest and the least weight of a walk that comes to it. */
    private void weighWalks() {
        for (int state = 0; state < STATES; state++) {
            heaviest[state] = NONE;
            lightest[state] = NONE;
        }
        heaviest[START] = weights[0];
        lightest[START] = weights[0];
        for (int state = START; state < STATES; state++) {
            if (heaviest[state] != NONE) {
                stepOnFrom(state);
            }
        }
    }

    private void stepOnFrom(int state) {
        int ends = edges[blockOf(state)];
        for (int b = 0; b < BLOCKS; b++) {
            int next = has(ends, b) ? stateAfterVisit(state, b) : NONE;
            if (next != NONE) {
                noteWeights(next, heaviest[state] + weights[b], lightest[state] + weights[b]);
            }
        }
    }

    /** NONE when the visit's count would be above the bound. */
    private int stateAfterVisit(int state, int b) {
        int shift = shiftOf(placeOf[b]);
        int count = (state >> shift & COUNT_MASK) + 1;
        if (count > bounds[b]) {
            return NONE;
        }
        return ((state >> shift) + 1) << shift;
    }

    private void noteWeights(int state, int heavy, int light) {
        if (heavy > heaviest[state]) {
            heaviest[state] = heavy;
        }
        if (lightest[state] == NONE || light < lightest[state]) {
            lightest[state] = light;
        }
    }

    private int blockOf(int state) {
        for (int place = BLOCKS - 1; place > 0; place--) {
            int shift = shiftOf(place);
            if ((state >> shift & COUNT_MASK) != 0) {
                return blockAt[place];
            }
        }
        return blockAt[0];
    }

    private static int shiftOf(int place) {
        return (BLOCKS - 1 - place) * COUNT_BITS;
    }

    private int heaviestOfAll() {
        int most = NONE;
        for (int state = START; state < STATES; state++) {
            if (heaviest[state] > most) {
                most = heaviest[state];
            }
        }
        return most;
    }

    private int heaviestEndingAt(int b) {
        int most = NONE;
        for (int state = START; state < STATES; state++) {
            if (heaviest[state] > most && blockOf(state) == b) {
                most = heaviest[state];
            }
        }
        return most;
    }

    private int lightestEndingAt(int b) {
        int fewest = NONE;
        for (int state = START; state < STATES; state++) {
            if (lightest[state] != NONE && blockOf(state) == b) {
                if (fewest == NONE || lightest[state] < fewest) {
                    fewest = lightest[state];
                }
            }
        }
        return fewest;
    }
}
