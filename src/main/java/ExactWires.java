/** Networks of wires with whole conductances, and what their edges answer in exact fractions. */
public final class ExactWires {
    public static final int NONE = -1;
    public static final int LOOP = 0, PARALLEL = 1, SPIKE = 2, SERIES = 3, TRIANGLE = 4, STAR = 5;

    private static final int MOST_NODES = 7;
    private static final int MOST_WIRES = 20;
    private static final int MOST_WIRES_THERE = 12;
    private static final int MOST_CONDUCTANCE = 60;
    private static final int MOST_VALUE = 99;

    private final Network network;
    private final Forests forests;
    private final Minors minors;
    private final Walks walks;
    private final Moves moves;
    private final Marked marked;
    private final int[] values;

    public ExactWires() {
        network = new Network();
        forests = new Forests(network);
        minors = new Minors(network);
        walks = new Walks(network);
        moves = new Moves(network);
        marked = new Marked();
        values = new int[MOST_NODES];
    }

    // ---- nodes, wires

    /** Adds a node; returns its number. */
    public int node(boolean isEdge) throws IllegalStateException {
        if (!network.hasRoom(1, 0)) {
            throw new IllegalStateException("there were 7 nodes");
        }
        moves.forget();
        return network.addNode(isEdge);
    }

    /** Adds a wire; returns its number. */
    public int wire(int node, int other, int conductance)
            throws IndexOutOfBoundsException, IllegalArgumentException, IllegalStateException {
        needNode(node);
        needNode(other);
        if (!isConductance(conductance)) {
            throw new IllegalArgumentException("a conductance is 1 to 60");
        }
        if (!network.hasRoom(0, 1) || Integer.bitCount(network.wiresThere) >= MOST_WIRES_THERE) {
            throw new IllegalStateException("there were 20 wires, or there are 12");
        }
        moves.forget();
        return network.addWire(node, other, conductance);
    }

    /** Returns what a wire is: 0 its first node, 1 its second node, 2 its conductance. */
    public int wireIs(int wire, int what) throws IndexOutOfBoundsException, IllegalArgumentException {
        needWire(wire);
        if (what < 0 || what > 2) {
            throw new IllegalArgumentException("what is 0 to 2");
        }
        if (what == 0) {
            return network.firstOf(wire);
        }
        return what == 1 ? network.secondOf(wire) : network.conductanceOf(wire);
    }

    /** Returns the nodes that are there, as a set. */
    public int nodes() {
        return network.nodesThere;
    }

    /** Returns the wires that are there, as a set. */
    public int wires() {
        return network.wiresThere;
    }

    // ---- trees

    /** Counts the trees. */
    public long trees() {
        return countTrees();
    }

    /** Counts the trees by the minor of the network without its lowest node. */
    public long treesAnew() {
        return minors.countTreesAgain();
    }

    /** Returns the wires of the tree at a place, as a set, or NONE. */
    public int tree(int place) throws IllegalArgumentException {
        if (place < 0) {
            throw new IllegalArgumentException("a place is from 0");
        }
        return forests.treeAt(place);
    }

    /** Counts the rest. */
    public long rest() {
        return countRest();
    }

    // ---- answers

    /** Returns a part of the answer of two edges. */
    public long answer(int edge, int other, boolean isLower)
            throws IndexOutOfBoundsException, IllegalArgumentException {
        needEdge(edge);
        needEdge(other);
        if (edge == other) {
            throw new IllegalArgumentException("the edges are the same");
        }
        return partOf(upperOfAnswer(edge, other), countRest(), isLower);
    }

    /** Tells the value of an edge. */
    public void value(int edge, int value) throws IndexOutOfBoundsException, IllegalArgumentException {
        needEdge(edge);
        if (value < -MOST_VALUE || value > MOST_VALUE) {
            throw new IllegalArgumentException("a value is -99 to 99");
        }
        setValue(edge, value);
    }

    /** Returns a part of the potential of a node. */
    public long potential(int node, boolean isLower) throws IndexOutOfBoundsException {
        needNode(node);
        if (network.hasEdge(node)) {
            return partOf(valueOf(node), 1, isLower);
        }
        return partOf(upperOfPotential(node), countRest(), isLower);
    }

    /** Returns a part of the current into the network at an edge. */
    public long current(int edge, boolean isLower) throws IndexOutOfBoundsException {
        needEdge(edge);
        return partOf(upperOfCurrent(edge), countRest(), isLower);
    }

    /** Returns a part of the power. */
    public long power(boolean isLower) {
        long upper = 0;
        for (int edge = 0; edge < MOST_NODES; edge++) {
            if (network.hasEdge(edge)) {
                upper += valueOf(edge) * upperOfCurrent(edge);
            }
        }
        return partOf(upper, countRest(), isLower);
    }

    /** Returns a part of the distance of two nodes. */
    public long distance(int node, int other, boolean isLower) throws IndexOutOfBoundsException {
        needNode(node);
        needNode(other);
        if (node == other) {
            return partOf(0, 1, isLower);
        }
        return partOf(forests.count(setOf(node) | setOf(other)), countTrees(), isLower);
    }

    /** Returns a part of the chance that a walk comes to the first of two nodes. */
    public long chance(int from, int first, int second, boolean isLower)
            throws IndexOutOfBoundsException, IllegalArgumentException {
        needNode(from);
        needNode(first);
        needNode(second);
        if (first == second) {
            throw new IllegalArgumentException("the two nodes are the same");
        }
        int ends = setOf(first) | setOf(second);
        return partOf(forests.countWith(ends, from, first), forests.count(ends), isLower);
    }

    /** Erases the loops of a walk; returns what is left, or NONE. */
    public int erased(int walk) throws IndexOutOfBoundsException, IllegalArgumentException {
        if (walks.hasStrangeNode(walk)) {
            throw new IndexOutOfBoundsException("there is no such node");
        }
        if (!walks.isWritten(walk)) {
            throw new IllegalArgumentException("a walk is of 1 to 9 digits, none of them 0");
        }
        return walks.withoutLoops(walk);
    }

    /** Finds a part of the conductance of a wire of the star that answers alike. */
    public long starred(int edge, boolean isLower) throws IndexOutOfBoundsException {
        needEdge(edge);
        if (Integer.bitCount(network.edges) != 3) {
            return 0;
        }
        for (int each = 0; each < MOST_NODES; each++) {
            if (network.hasEdge(each) && upperOfOppositeAnswer(each) == 0) {
                return 0;
            }
        }
        // The sum of the products of two answers is trees by rest (it is a minor of what the edges
        // answer), and an answer is its upper count by rest: so the trees by that count are the same
        // fraction, while the products themselves could be too great for a long.
        return partOf(countTrees(), upperOfOppositeAnswer(edge), isLower);
    }

    // ---- moves

    /** Does a move. */
    public void move(int kind, int which)
            throws IndexOutOfBoundsException, IllegalArgumentException, IllegalStateException {
        if (kind >= LOOP && kind <= STAR) {
            needWireOrNode(kind, which);
        } else {
            throw new IllegalArgumentException("a kind is LOOP to STAR");
        }
        if (!moves.doIfPossible(kind, which)) {
            throw new IllegalStateException("the move is not possible");
        }
    }

    /** Undoes a move; returns how many can be undone still. */
    public int undo() throws IllegalStateException {
        if (moves.howMany() == 0) {
            throw new IllegalStateException("there is no move to undo");
        }
        moves.takeBack();
        return moves.howMany();
    }

    /** Simplifies; returns how many moves were done. */
    public int simplify() {
        int done = 0;
        // Each of these moves leaves one wire less, so there are fewer of them than wires.
        while (done < MOST_WIRES && moves.doFirstSimple()) {
            done++;
        }
        return done;
    }

    /** Marks the network as it is. */
    public void mark() {
        marked.begin(network.edges);
        long rest = countRest();
        for (int edge = 0; edge < MOST_NODES; edge++) {
            for (int other = edge + 1; other < MOST_NODES; other++) {
                if (marked.hasPair(edge, other)) {
                    long upper = upperOfAnswer(edge, other);
                    marked.keep(edge, other, partOf(upper, rest, false), partOf(upper, rest, true));
                }
            }
        }
    }

    /** Tells whether all answers of the edges that were there at the mark are as they were then. */
    public boolean keeps() {
        long rest = countRest();
        for (int edge = 0; edge < MOST_NODES; edge++) {
            for (int other = edge + 1; other < MOST_NODES; other++) {
                if (marked.hasPair(edge, other)) {
                    long upper = upperOfAnswer(edge, other);
                    if (!marked.isKept(edge, other, partOf(upper, rest, false), partOf(upper, rest, true))) {
                        return false;
                    }
                }
            }
        }
        return true;
    }

    // ---- what the calls ask ahead

    private void needNode(int node) {
        if (!network.hasNode(node)) {
            throw new IndexOutOfBoundsException("there is no such node");
        }
    }

    private void needEdge(int node) {
        if (!network.hasEdge(node)) {
            throw new IndexOutOfBoundsException("there is no such edge");
        }
    }

    private void needWire(int wire) {
        if (!network.hasWire(wire)) {
            throw new IndexOutOfBoundsException("there is no such wire");
        }
    }

    private void needWireOrNode(int kind, int which) {
        if (isOfWire(kind)) {
            needWire(which);
        } else {
            needNode(which);
        }
    }

    private static boolean isOfWire(int kind) {
        return kind == LOOP || kind == PARALLEL || kind == STAR;
    }

    private static boolean isConductance(int conductance) {
        return conductance >= 1 && conductance <= MOST_CONDUCTANCE;
    }

    // ---- counts and fractions

    private static int setOf(int number) {
        return 1 << number;
    }

    private static boolean isIn(int set, int number) {
        return (set >> number & 1) != 0;
    }

    /** Returns a part of a fraction in lowest terms; the lower part that is given is not below 0. */
    private static long partOf(long upper, long lower, boolean isLower) {
        long divisor = greatestDivisor(lower, Math.abs(upper));
        if (lower == 0 || divisor == 0) {
            return 0;
        }
        return (isLower ? lower : upper) / divisor;
    }

    private static long greatestDivisor(long one, long other) {
        long divisor = one;
        long left = other;
        for (int step = 0; step < 1000 && left != 0; step++) {
            long next = divisor % left;
            divisor = left;
            left = next;
        }
        return divisor;
    }

    private long countTrees() {
        int lowest = network.lowestNode();
        return lowest == NONE ? 0 : forests.count(setOf(lowest));
    }

    private long countRest() {
        return forests.count(network.edges);
    }

    /** Each tree of an answer has just one edge, if the first of the two is not counted as one. */
    private long upperOfAnswer(int edge, int other) {
        return forests.countWith(network.edges & ~setOf(edge), edge, other);
    }

    private long upperOfPotential(int node) {
        long upper = 0;
        for (int edge = 0; edge < MOST_NODES; edge++) {
            if (network.hasEdge(edge)) {
                upper += valueOf(edge) * forests.countWith(network.edges, node, edge);
            }
        }
        return upper;
    }

    private long upperOfCurrent(int edge) {
        long upper = 0;
        for (int other = 0; other < MOST_NODES; other++) {
            if (other != edge && network.hasEdge(other)) {
                upper += (valueOf(edge) - valueOf(other)) * upperOfAnswer(edge, other);
            }
        }
        return upper;
    }

    private long valueOf(int edge) {
        return edge >= 0 && edge < values.length ? values[edge] : 0;
    }

    private void setValue(int edge, int value) {
        if (edge >= 0 && edge < values.length) {
            values[edge] = value;
        }
    }

    /** Of three edges: the upper count of the answer of the two that are not this one. */
    private long upperOfOppositeAnswer(int edge) {
        int one = NONE;
        for (int other = 0; other < MOST_NODES; other++) {
            if (other != edge && network.hasEdge(other)) {
                if (one != NONE) {
                    return upperOfAnswer(one, other);
                }
                one = other;
            }
        }
        return 0;
    }

    /** The nodes and wires that are there, and how many ever were. */
    private static final class Network {
        int nodesThere;
        int edges;
        int wiresThere;
        int nodesEver;
        int wiresEver;
        private final int[] first;
        private final int[] second;
        private final int[] conductance;

        Network() {
            first = new int[MOST_WIRES];
            second = new int[MOST_WIRES];
            conductance = new int[MOST_WIRES];
        }

        boolean hasNode(int node) {
            return node >= 0 && node < MOST_NODES && isIn(nodesThere, node);
        }

        boolean hasEdge(int node) {
            return hasNode(node) && isIn(edges, node);
        }

        boolean hasWire(int wire) {
            return wire >= 0 && wire < MOST_WIRES && isIn(wiresThere, wire);
        }

        boolean hasRoom(int newNodes, int newWires) {
            return nodesEver + newNodes <= MOST_NODES && wiresEver + newWires <= MOST_WIRES;
        }

        int firstOf(int wire) {
            return wire >= 0 && wire < MOST_WIRES ? first[wire] : NONE;
        }

        int secondOf(int wire) {
            return wire >= 0 && wire < MOST_WIRES ? second[wire] : NONE;
        }

        int conductanceOf(int wire) {
            return wire >= 0 && wire < MOST_WIRES ? conductance[wire] : 0;
        }

        void setConductance(int wire, int to) {
            if (wire >= 0 && wire < MOST_WIRES) {
                conductance[wire] = to;
            }
        }

        boolean isRing(int wire) {
            return firstOf(wire) == secondOf(wire);
        }

        boolean isAt(int wire, int node) {
            return firstOf(wire) == node || secondOf(wire) == node;
        }

        int farEndOf(int wire, int node) {
            return firstOf(wire) == node ? secondOf(wire) : firstOf(wire);
        }

        int lowestNode() {
            for (int node = 0; node < MOST_NODES; node++) {
                if (hasNode(node)) {
                    return node;
                }
            }
            return NONE;
        }

        int wiresAt(int node) {
            int set = 0;
            for (int wire = 0; wire < MOST_WIRES; wire++) {
                if (hasWire(wire) && (first[wire] == node || second[wire] == node)) {
                    set |= setOf(wire);
                }
            }
            return set;
        }

        /** Returns the lowest wire that joins two nodes, but for one that is left out, or NONE. */
        int lowestBetween(int one, int other, int leftOut) {
            for (int wire = 0; wire < MOST_WIRES; wire++) {
                boolean isBetween = first[wire] == one && second[wire] == other
                        || first[wire] == other && second[wire] == one;
                if (isBetween && wire != leftOut && hasWire(wire)) {
                    return wire;
                }
            }
            return NONE;
        }

        /** Adds a node where there is room; returns its number. */
        int addNode(boolean isEdge) {
            int added = nodesEver;
            nodesEver++;
            nodesThere |= setOf(added);
            if (isEdge) {
                edges |= setOf(added);
            }
            return added;
        }

        /** Adds a wire where there is room; returns its number. */
        int addWire(int node, int other, int itsConductance) {
            int added = wiresEver;
            if (added < 0 || added >= MOST_WIRES) {
                return NONE;
            }
            wiresEver++;
            wiresThere |= setOf(added);
            first[added] = node;
            second[added] = other;
            conductance[added] = itsConductance;
            return added;
        }
    }

    /**
     * Counts forests by roots: each tree of such a forest has just one of them. All counts of the
     * document are of this form, with or without two nodes that must be in one tree.
     */
    private static final class Forests {
        private final Network network;
        /** The wires that may be in a forest, rising. */
        private final int[] wireAt;
        /** By how many wires are taken and by node: the nodes of its tree, as a set. */
        private final int[][] treeOf;
        private int roots;
        private int howManyWires;
        private int size;
        private int one;
        private int other;
        private int skipped;

        Forests(Network network) {
            this.network = network;
            wireAt = new int[MOST_WIRES];
            treeOf = new int[MOST_NODES + 1][MOST_NODES];
        }

        /** Counts the forests in which each tree has one of the roots, and just one. */
        long count(int itsRoots) {
            return countWith(itsRoots, 0, 0);
        }

        /** Counts those of them in which two nodes are in one tree. */
        long countWith(int itsRoots, int node, int together) {
            begin(itsRoots);
            one = node;
            other = together;
            return weigh(this, 0, howManyWires);
        }

        /** Returns the wires of the tree of the whole network at a place, or NONE. */
        int treeAt(int place) {
            int lowest = network.lowestNode();
            if (lowest == NONE) {
                return NONE;
            }
            begin(setOf(lowest));
            skipped = place;
            return find(this, 0, howManyWires);
        }

        private void begin(int itsRoots) {
            roots = itsRoots;
            size = Integer.bitCount(network.nodesThere) - Integer.bitCount(itsRoots);
            howManyWires = 0;
            for (int wire = 0; wire < MOST_WIRES; wire++) {
                if (network.hasWire(wire) && !network.isRing(wire) && howManyWires < wireAt.length) {
                    wireAt[howManyWires] = wire;
                    howManyWires++;
                }
            }
            for (int node = 0; node < MOST_NODES; node++) {
                treeOf[0][node] = setOf(node);
            }
        }

        /** Adds up what the wires still to be taken weigh, all of them from below a place. */
        private static long weigh(Forests forests, int taken, int below) {
            if (taken >= forests.size) {
                return forests.areTogether(taken) ? 1 : 0;
            }
            long sum = 0;
            for (int place = forests.size - taken - 1; place < below; place++) {
                int wire = forests.wireOf(place);
                if (forests.canTake(wire, taken)) {
                    sum += forests.network.conductanceOf(wire) * weigh(forests, taken + 1, place);
                }
            }
            return sum;
        }

        /** Takes the highest wire first, and it rising: so the sets come by rising numbers. */
        private static int find(Forests forests, int taken, int below) {
            if (taken >= forests.size) {
                forests.skipped--;
                return forests.skipped < 0 ? 0 : NONE;
            }
            for (int place = forests.size - taken - 1; place < below; place++) {
                int wire = forests.wireOf(place);
                if (forests.canTake(wire, taken)) {
                    int lower = find(forests, taken + 1, place);
                    if (lower != NONE) {
                        return lower | setOf(wire);
                    }
                }
            }
            return NONE;
        }

        private int wireOf(int place) {
            return place >= 0 && place < wireAt.length ? wireAt[place] : NONE;
        }

        private int treeAround(int node, int taken) {
            if (taken < 0 || taken >= treeOf.length || node < 0 || node >= MOST_NODES) {
                return 0;
            }
            return treeOf[taken][node];
        }

        private boolean areTogether(int taken) {
            return isIn(treeAround(one, taken), other);
        }

        /** Takes a wire, if it makes no ring and joins no roots; tells whether it did. */
        private boolean canTake(int wire, int taken) {
            int node = network.firstOf(wire);
            int far = network.secondOf(wire);
            int tree = treeAround(node, taken);
            int joined = tree | treeAround(far, taken);
            if (isIn(tree, far) || Integer.bitCount(joined & roots) > 1) {
                return false;
            }
            if (taken < 0 || taken + 1 >= treeOf.length) {
                return false;
            }
            for (int each = 0; each < MOST_NODES; each++) {
                treeOf[taken + 1][each] = isIn(joined, each) ? joined : treeOf[taken][each];
            }
            return true;
        }
    }

    /** Counts trees by the minor of the network without its lowest node. */
    private static final class Minors {
        private final Network network;
        private final int[] rowOf;
        private final long[][] rows;

        Minors(Network network) {
            this.network = network;
            rowOf = new int[MOST_NODES];
            rows = new long[MOST_NODES][MOST_NODES];
        }

        long countTreesAgain() {
            int lowest = network.lowestNode();
            if (lowest == NONE) {
                return 0;
            }
            int size = numberRows(lowest);
            clearRows();
            for (int wire = 0; wire < MOST_WIRES; wire++) {
                if (network.hasWire(wire) && !network.isRing(wire)) {
                    enter(wire);
                }
            }
            return expand(rows, size, 0, setOf(size) - 1);
        }

        private int numberRows(int leftOut) {
            int size = 0;
            for (int node = 0; node < MOST_NODES; node++) {
                rowOf[node] = NONE;
                if (node != leftOut && network.hasNode(node)) {
                    rowOf[node] = size;
                    size++;
                }
            }
            return size;
        }

        private void clearRows() {
            for (int row = 0; row < MOST_NODES; row++) {
                for (int column = 0; column < MOST_NODES; column++) {
                    rows[row][column] = 0;
                }
            }
        }

        private void enter(int wire) {
            int row = rowOfNode(network.firstOf(wire));
            int column = rowOfNode(network.secondOf(wire));
            int conductance = network.conductanceOf(wire);
            add(row, row, conductance);
            add(column, column, conductance);
            add(row, column, -conductance);
            add(column, row, -conductance);
        }

        private int rowOfNode(int node) {
            return node >= 0 && node < MOST_NODES ? rowOf[node] : NONE;
        }

        private void add(int row, int column, int much) {
            if (row >= 0 && row < MOST_NODES && column >= 0 && column < MOST_NODES) {
                rows[row][column] += much;
            }
        }

        /** Returns the minor of the rows from one on, of the columns of a set. */
        private static long expand(long[][] rows, int size, int row, int columns) {
            if (row < 0 || row >= size || row >= MOST_NODES) {
                return 1;
            }
            long sum = 0;
            long sign = 1;
            for (int column = 0; column < MOST_NODES; column++) {
                if (isIn(columns, column)) {
                    if (rows[row][column] != 0) {
                        sum += sign * rows[row][column] * expand(rows, size, row + 1, columns & ~setOf(column));
                    }
                    sign = -sign;
                }
            }
            return sum;
        }
    }

    /** Walks, written as numbers whose digits are nodes, each 1 more than its number. */
    private static final class Walks {
        private static final int MOST_STEPS = 9;
        private static final int HIGHEST = 999999999;
        private static final int MOST_DIGITS = 10;

        private final Network network;
        private final int[] steps;

        Walks(Network network) {
            this.network = network;
            steps = new int[MOST_STEPS];
        }

        /** Tells whether a digit that is not 0 is of no node that is there. */
        boolean hasStrangeNode(int walk) {
            int left = walk;
            for (int step = 0; step < MOST_DIGITS && left > 0; step++) {
                if (left % 10 != 0 && !network.hasNode(left % 10 - 1)) {
                    return true;
                }
                left /= 10;
            }
            return false;
        }

        boolean isWritten(int walk) {
            return walk >= 1 && walk <= HIGHEST && !hasZero(walk);
        }

        private static boolean hasZero(int walk) {
            int left = walk;
            for (int step = 0; step < MOST_DIGITS && left > 0; step++) {
                if (left % 10 == 0) {
                    return true;
                }
                left /= 10;
            }
            return false;
        }

        /** Returns what is left of a walk that is written well, or NONE. */
        int withoutLoops(int walk) {
            int length = read(walk);
            for (int step = 1; step < length && step < MOST_STEPS; step++) {
                if (network.lowestBetween(steps[step - 1], steps[step], NONE) == NONE) {
                    return NONE;
                }
            }
            return write(erase(length));
        }

        /** Writes the walk's nodes into the steps; returns how many they are. */
        private int read(int walk) {
            int length = 0;
            for (int left = walk; length < MOST_STEPS && left > 0; left /= 10) {
                length++;
            }
            int left = walk;
            for (int step = length - 1; step >= 0; step--) {
                steps[step] = left % 10 - 1;
                left /= 10;
            }
            return length;
        }

        /** What is left is never longer than what was read, so it takes the same steps. */
        private int erase(int length) {
            int kept = 0;
            for (int step = 0; step < length && step < MOST_STEPS; step++) {
                int node = steps[step];
                kept = firstComing(node, kept);
                if (kept >= 0 && kept < MOST_STEPS) {
                    steps[kept] = node;
                    kept++;
                }
            }
            return kept;
        }

        private int firstComing(int node, int kept) {
            for (int step = 0; step < kept && step < MOST_STEPS; step++) {
                if (steps[step] == node) {
                    return step;
                }
            }
            return kept;
        }

        private int write(int length) {
            int walk = 0;
            for (int step = 0; step < length && step < MOST_STEPS; step++) {
                walk = walk * 10 + steps[step] + 1;
            }
            return walk;
        }
    }

    /** What a move takes away, changes and brings, and whether it may. */
    private static final class Plan {
        private static final int MOST_COMING = 3;

        boolean isPossible;
        int nodesGoing;
        int wiresGoing;
        int changed;
        int changedTo;
        int newNodes;
        int coming;
        final int[] first;
        final int[] second;
        final int[] conductance;

        Plan() {
            first = new int[MOST_COMING];
            second = new int[MOST_COMING];
            conductance = new int[MOST_COMING];
        }

        void begin() {
            isPossible = false;
            nodesGoing = 0;
            wiresGoing = 0;
            changed = NONE;
            changedTo = 0;
            newNodes = 0;
            coming = 0;
        }

        /** Adds a wire whose conductance is a fraction; the plan fails, if it is not whole and 1 to 60. */
        void bring(int node, int other, int upper, int lower) {
            if (lower <= 0 || upper % lower != 0 || !isConductance(upper / lower) || coming >= MOST_COMING) {
                isPossible = false;
                return;
            }
            first[coming] = node;
            second[coming] = other;
            conductance[coming] = upper / lower;
            coming++;
        }
    }

    /** Plans moves, does them, and takes them back. */
    private static final class Moves {
        /**
         * More than can ever be undone: a TRIANGLE or STAR uses 3 of 20 wires, and each other move
         * leaves one less of at most 12 wires.
         */
        private static final int MOST_KEPT = 20;

        private final Network network;
        private final Plan plan;
        private final int[] spokes;
        private final int[] nodesThere;
        private final int[] wiresThere;
        private final int[] nodesEver;
        private final int[] wiresEver;
        private final int[] changed;
        private final int[] changedFrom;
        private int kept;

        Moves(Network network) {
            this.network = network;
            plan = new Plan();
            spokes = new int[Plan.MOST_COMING];
            nodesThere = new int[MOST_KEPT];
            wiresThere = new int[MOST_KEPT];
            nodesEver = new int[MOST_KEPT];
            wiresEver = new int[MOST_KEPT];
            changed = new int[MOST_KEPT];
            changedFrom = new int[MOST_KEPT];
        }

        int howMany() {
            return kept;
        }

        void forget() {
            kept = 0;
        }

        boolean doIfPossible(int kind, int which) {
            plan.begin();
            switch (kind) {
                case LOOP:
                    planLoop(which);
                    break;
                case PARALLEL:
                    planParallel(which);
                    break;
                case SPIKE:
                    planSpike(which);
                    break;
                case SERIES:
                    planSeries(which);
                    break;
                case TRIANGLE:
                    planTriangle(which);
                    break;
                case STAR:
                    planStar(which);
                    break;
                default:
                    return false;
            }
            if (!plan.isPossible || !network.hasRoom(plan.newNodes, plan.coming) || !keepAsItIs()) {
                return false;
            }
            carryOut();
            return true;
        }

        /** Does the first move that makes the network simpler; tells whether there was one. */
        boolean doFirstSimple() {
            for (int kind = LOOP; kind <= SERIES; kind++) {
                for (int which = 0; which < MOST_WIRES; which++) {
                    boolean isThere = isOfWire(kind) ? network.hasWire(which) : network.hasNode(which);
                    if (isThere && doIfPossible(kind, which)) {
                        return true;
                    }
                }
            }
            return false;
        }

        private void planLoop(int wire) {
            plan.isPossible = network.isRing(wire);
            plan.wiresGoing = setOf(wire);
        }

        private void planParallel(int wire) {
            int other = network.lowestBetween(network.firstOf(wire), network.secondOf(wire), wire);
            if (network.isRing(wire) || other == NONE) {
                return;
            }
            plan.changed = wire;
            plan.changedTo = network.conductanceOf(wire) + network.conductanceOf(other);
            plan.wiresGoing = setOf(other);
            plan.isPossible = isConductance(plan.changedTo);
        }

        private void planSpike(int node) {
            planWithout(node, 1);
        }

        private void planSeries(int node) {
            if (planWithout(node, 2)) {
                int sum = conductanceOfSpoke(0) + conductanceOfSpoke(1);
                bringAcross(node, 0, 1, sum);
            }
        }

        private void planTriangle(int node) {
            if (planWithout(node, 3)) {
                int sum = conductanceOfSpoke(0) + conductanceOfSpoke(1) + conductanceOfSpoke(2);
                bringAcross(node, 0, 1, sum);
                bringAcross(node, 0, 2, sum);
                bringAcross(node, 1, 2, sum);
            }
        }

        /** Plans to take an inner node away, if just so many wires go from it, to unlike other nodes. */
        private boolean planWithout(int node, int degree) {
            int wires = network.wiresAt(node);
            if (network.hasEdge(node) || Integer.bitCount(wires) != degree) {
                return false;
            }
            int ends = setOf(node);
            int found = 0;
            for (int wire = 0; wire < MOST_WIRES; wire++) {
                if (isIn(wires, wire) && found < spokes.length) {
                    spokes[found] = wire;
                    found++;
                    ends |= setOf(network.farEndOf(wire, node));
                }
            }
            plan.nodesGoing = setOf(node);
            plan.wiresGoing = wires;
            plan.isPossible = Integer.bitCount(ends) == degree + 1;
            return plan.isPossible;
        }

        private int spokeAt(int place) {
            return place >= 0 && place < spokes.length ? spokes[place] : NONE;
        }

        private int conductanceOfSpoke(int place) {
            return network.conductanceOf(spokeAt(place));
        }

        private void bringAcross(int node, int one, int other, int lower) {
            int upper = conductanceOfSpoke(one) * conductanceOfSpoke(other);
            plan.bring(network.farEndOf(spokeAt(one), node), network.farEndOf(spokeAt(other), node), upper, lower);
        }

        private void planStar(int wire) {
            int node = network.firstOf(wire);
            int other = network.secondOf(wire);
            int second = secondOfTriangle(wire);
            if (second == NONE) {
                return;
            }
            int third = network.lowestBetween(other, network.farEndOf(second, node), NONE);
            int one = network.conductanceOf(wire);
            int two = network.conductanceOf(second);
            int three = network.conductanceOf(third);
            int products = one * two + one * three + two * three;
            plan.isPossible = true;
            plan.wiresGoing = setOf(wire) | setOf(second) | setOf(third);
            plan.newNodes = 1;
            plan.bring(node, network.nodesEver, products, three);
            plan.bring(other, network.nodesEver, products, two);
            plan.bring(network.farEndOf(second, node), network.nodesEver, products, one);
        }

        /** Returns the lowest wire that is a triangle with this one and a third, or NONE. */
        private int secondOfTriangle(int wire) {
            int node = network.firstOf(wire);
            int other = network.secondOf(wire);
            for (int second = 0; second < MOST_WIRES; second++) {
                if (node != other && network.hasWire(second) && network.isAt(second, node)) {
                    int far = network.farEndOf(second, node);
                    if (far != node && far != other && network.lowestBetween(other, far, NONE) != NONE) {
                        return second;
                    }
                }
            }
            return NONE;
        }

        /** Keeps what the planned move changes, so that it can be taken back. */
        private boolean keepAsItIs() {
            if (kept < 0 || kept >= MOST_KEPT) {
                return false;
            }
            nodesThere[kept] = network.nodesThere;
            wiresThere[kept] = network.wiresThere;
            nodesEver[kept] = network.nodesEver;
            wiresEver[kept] = network.wiresEver;
            changed[kept] = plan.changed;
            changedFrom[kept] = network.conductanceOf(plan.changed);
            kept++;
            return true;
        }

        private void carryOut() {
            network.nodesThere &= ~plan.nodesGoing;
            network.wiresThere &= ~plan.wiresGoing;
            network.setConductance(plan.changed, plan.changedTo);
            if (plan.newNodes > 0) {
                network.addNode(false);
            }
            for (int place = 0; place < plan.coming && place < Plan.MOST_COMING; place++) {
                network.addWire(plan.first[place], plan.second[place], plan.conductance[place]);
            }
        }

        /** Wires that went still hold their ends and conductances, so the sets alone bring them back. */
        void takeBack() {
            if (kept <= 0 || kept > MOST_KEPT) {
                return;
            }
            kept--;
            network.nodesThere = nodesThere[kept];
            network.wiresThere = wiresThere[kept];
            network.nodesEver = nodesEver[kept];
            network.wiresEver = wiresEver[kept];
            network.setConductance(changed[kept], changedFrom[kept]);
        }
    }

    /** The answers of the edges at the mark, in lowest terms. */
    private static final class Marked {
        private int edges;
        private final long[][] upper;
        private final long[][] lower;

        Marked() {
            upper = new long[MOST_NODES][MOST_NODES];
            lower = new long[MOST_NODES][MOST_NODES];
        }

        void begin(int edgesThere) {
            edges = edgesThere;
        }

        boolean hasPair(int edge, int another) {
            return isPair(edge, another) && isIn(edges, edge) && isIn(edges, another);
        }

        void keep(int edge, int another, long itsUpper, long itsLower) {
            if (isPair(edge, another)) {
                upper[edge][another] = itsUpper;
                lower[edge][another] = itsLower;
            }
        }

        boolean isKept(int edge, int another, long itsUpper, long itsLower) {
            return isPair(edge, another)
                    && upper[edge][another] == itsUpper && lower[edge][another] == itsLower;
        }

        private static boolean isPair(int edge, int another) {
            return edge >= 0 && edge < MOST_NODES && another >= 0 && another < MOST_NODES;
        }
    }
}
