// Says what the nodes of a small network of switches hold.
public final class SwitchNet {
    public static final int BAD = -1;
    public static final int FULL = -2;

    private static final int NODES = 11;
    private static final int FIRST_SETTABLE = 2;
    private static final int FIRST_STORE = 5;
    private static final int SETTINGS = 8;
    private static final int SLOTS = 12;
    private static final int KINDS = 3;
    private static final int GATES = 3;
    private static final int WHATS = 27;
    private static final int CLOSED_AT_ONE = 0;
    private static final int CLOSED_AT_ZERO = 1;
    private static final int LEAST_STRENGTH = 4;
    private static final int INPUT_WEIGHT = 7;
    private static final int GREATEST_SIZE = 3;
    private static final int UNKNOWN = 2;

    // Bit 0 is input 2, bit 1 input 3, bit 2 input 4, as inputsFor numbers them:
    // so a setting can be tried without changing the object.
    private int setting = 0;

    // Indexed by node; the places of the inputs are not used.
    private final int[] charges = new int[NODES];
    private final int[] sizes = new int[NODES];

    // Bit k is set when switch k is there; only then do its places below count.
    private int present = 0;
    private final int[] endA = new int[SLOTS];
    private final int[] endB = new int[SLOTS];
    private final int[] kinds = new int[SLOTS];
    private final int[] gates = new int[SLOTS];
    private final int[] strengths = new int[SLOTS];

    // Made anew by trace() for one setting; nothing here outlives a call.
    private final int[] weights = new int[NODES];
    private final int[] rootSets = new int[NODES];
    private final int[] settled = new int[NODES];

    public SwitchNet() {
        for (int s = FIRST_STORE; s < NODES; s++) {
            charges[s] = UNKNOWN;
            sizes[s] = 1;
        }
    }

    public int add(int a, int b, int what) {
        if (a == b || !isNode(a) || !isNode(b) || what < 0 || what >= WHATS) {
            return BAD;
        }
        int k = leastFreeSlot();
        if (k == SLOTS) {
            return FULL;
        }
        endA[k] = a;
        endB[k] = b;
        kinds[k] = what % KINDS;
        gates[k] = FIRST_SETTABLE + (what / KINDS) % GATES;
        strengths[k] = LEAST_STRENGTH + what / (KINDS * GATES);
        present |= 1 << k;
        return k;
    }

    public boolean remove(int k) {
        if (k < 0 || k >= SLOTS || !hasBit(present, k)) {
            return false;
        }
        present &= ~(1 << k);
        return true;
    }

    public boolean set(int i, int v) {
        if (i < FIRST_SETTABLE || i >= FIRST_STORE || v < 0 || v > 1) {
            return false;
        }
        int place = i - FIRST_SETTABLE;
        setting = (setting & ~(1 << place)) | (v << place);
        return true;
    }

    public boolean size(int s, int z) {
        if (!isStore(s) || z < 1 || z > GREATEST_SIZE) {
            return false;
        }
        sizes[s] = z;
        return true;
    }

    public boolean charge(int s, int v) {
        if (!isStore(s) || v < 0 || v > UNKNOWN) {
            return false;
        }
        charges[s] = v;
        return true;
    }

    public int settle() {
        trace(setting);
        // All are worked out before one changes: each goes by what the others held before.
        for (int s = FIRST_STORE; s < NODES; s++) {
            settled[s] = outcome(s, setting);
        }
        int changed = 0;
        for (int s = FIRST_STORE; s < NODES; s++) {
            if (charges[s] != settled[s]) {
                charges[s] = settled[s];
                changed++;
            }
        }
        return changed;
    }

    public int holds(int n) {
        return isNode(n) ? valueUnder(n, setting) : BAD;
    }

    public int would(int n) {
        if (!isNode(n)) {
            return BAD;
        }
        trace(setting);
        return outcome(n, setting);
    }

    public int weight(int n) {
        if (!isNode(n)) {
            return BAD;
        }
        trace(setting);
        return weights[n];
    }

    public int roots(int n) {
        if (!isNode(n)) {
            return BAD;
        }
        trace(setting);
        return rootSets[n];
    }

    public int closed() {
        return closedUnder(setting);
    }

    public int switches() {
        return present;
    }

    public boolean shorted() {
        int shut = closedUnder(setting);
        for (int n = 0; n < FIRST_STORE; n++) {
            if (valueUnder(n, setting) == 0) {
                int reached = spread(n, shut);
                if (touchesOne(reached, shut)) {
                    return true;
                }
            }
        }
        return false;
    }

    public int reach(int n) {
        if (!isNode(n)) {
            return BAD;
        }
        int shut = closedUnder(setting);
        return spread(n, shut);
    }

    public int unknowns() {
        trace(setting);
        int count = 0;
        for (int s = FIRST_STORE; s < NODES; s++) {
            if (outcome(s, setting) == UNKNOWN) {
                count++;
            }
        }
        return count;
    }

    public int inputsFor(int s, int v) {
        if (!isStore(s) || v < 0 || v > UNKNOWN) {
            return BAD;
        }
        for (int tried = 0; tried < SETTINGS; tried++) {
            trace(tried);
            if (outcome(s, tried) == v) {
                return tried;
            }
        }
        return BAD;
    }

    private static boolean isNode(int n) {
        return n >= 0 && n < NODES;
    }

    private static boolean isStore(int n) {
        return n >= FIRST_STORE && n < NODES;
    }

    private static boolean hasBit(int bits, int k) {
        return ((bits >> k) & 1) == 1;
    }

    private static int lesser(int x, int y) {
        return x < y ? x : y;
    }

    private int leastFreeSlot() {
        int k = 0;
        while (k < SLOTS && hasBit(present, k)) {
            k++;
        }
        return k;
    }

    private int valueUnder(int n, int inputs) {
        if (n >= FIRST_STORE) {
            return charges[n];
        }
        // Nodes 0 and 1 hold their own numbers.
        return n < FIRST_SETTABLE ? n : (inputs >> (n - FIRST_SETTABLE)) & 1;
    }

    private int closedUnder(int inputs) {
        int shut = 0;
        for (int k = 0; k < SLOTS; k++) {
            if (hasBit(present, k) && closesUnder(k, inputs)) {
                shut |= 1 << k;
            }
        }
        return shut;
    }

    private boolean closesUnder(int k, int inputs) {
        int atGate = valueUnder(gates[k], inputs);
        if (kinds[k] == CLOSED_AT_ONE) {
            return atGate == 1;
        }
        if (kinds[k] == CLOSED_AT_ZERO) {
            return atGate == 0;
        }
        return true;
    }

    private int ownWeight(int n) {
        return n < FIRST_STORE ? INPUT_WEIGHT : sizes[n];
    }

    private void trace(int inputs) {
        int shut = closedUnder(inputs);
        weigh(shut);
        findRoots(shut);
    }

    // A way has fewer than NODES steps, so NODES rounds follow every way to its end.
    // A way that comes to a node twice is never heavier than the one without the loop,
    // so the rounds need not ask whether the nodes differ.
    private void weigh(int shut) {
        for (int n = 0; n < NODES; n++) {
            weights[n] = ownWeight(n);
        }
        for (int round = 0; round < NODES; round++) {
            for (int k = 0; k < SLOTS; k++) {
                if (hasBit(shut, k)) {
                    carryWeight(endA[k], endB[k], strengths[k]);
                    carryWeight(endB[k], endA[k], strengths[k]);
                }
            }
        }
    }

    private void carryWeight(int from, int to, int strength) {
        int carried = lesser(weights[from], strength);
        if (isStore(to) && carried > weights[to]) {
            weights[to] = carried;
        }
    }

    // An open way up to a node has this node's weight, so whether it stays open at the
    // next one depends on that step alone. A weaker switch beside a stronger one opens
    // no step that the stronger one does not, so each switch may be taken for itself.
    private void findRoots(int shut) {
        for (int n = 0; n < NODES; n++) {
            rootSets[n] = weights[n] == ownWeight(n) ? 1 << n : 0;
        }
        for (int round = 0; round < NODES; round++) {
            for (int k = 0; k < SLOTS; k++) {
                if (hasBit(shut, k)) {
                    carryRoots(endA[k], endB[k], strengths[k]);
                    carryRoots(endB[k], endA[k], strengths[k]);
                }
            }
        }
    }

    private void carryRoots(int from, int to, int strength) {
        int carried = lesser(weights[from], strength);
        if (isStore(to) && carried == weights[to]) {
            rootSets[to] |= rootSets[from];
        }
    }

    // Speaks of the setting that was traced last, which the caller hands over again.
    private int outcome(int n, int inputs) {
        boolean allZero = true;
        boolean allOne = true;
        for (int m = 0; m < NODES; m++) {
            if (hasBit(rootSets[n], m)) {
                int held = valueUnder(m, inputs);
                allZero = allZero && held == 0;
                allOne = allOne && held == 1;
            }
        }
        if (allZero) {
            return 0;
        }
        return allOne ? 1 : UNKNOWN;
    }

    // Only stores are added: a way may begin at an input but not come to one.
    private int spread(int n, int shut) {
        int reached = 1 << n;
        for (int round = 0; round < NODES; round++) {
            for (int k = 0; k < SLOTS; k++) {
                if (hasBit(shut, k)) {
                    if (hasBit(reached, endA[k]) && isStore(endB[k])) {
                        reached |= 1 << endB[k];
                    }
                    if (hasBit(reached, endB[k]) && isStore(endA[k])) {
                        reached |= 1 << endA[k];
                    }
                }
            }
        }
        return reached;
    }

    private boolean touchesOne(int reached, int shut) {
        for (int k = 0; k < SLOTS; k++) {
            if (hasBit(shut, k)) {
                if (hasBit(reached, endA[k]) && isInputAtOne(endB[k])) {
                    return true;
                }
                if (hasBit(reached, endB[k]) && isInputAtOne(endA[k])) {
                    return true;
                }
            }
        }
        return false;
    }

    private boolean isInputAtOne(int n) {
        return n < FIRST_STORE && valueUnder(n, setting) == 1;
    }
}
