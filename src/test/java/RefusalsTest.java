/**
 * "When a call throws, nothing has changed; of several exceptions it is the first one of the throws
 * clause": each refused call of the face, alone and with other arguments that are wrong too.
 */
public final class RefusalsTest extends Due {
    private static final int[] FAR = {-1, 7, 8, 20, 31, 32, 33, 64, Integer.MIN_VALUE, Integer.MAX_VALUE};
    /** In the object of inUse: went by SPIKE, went by undoing STAR, not yet there. */
    private static final int[] ABSENT_NODES = {4, 5, 6};
    /** In the object of inUse: went by SPIKE and LOOP, went by undoing STAR, not yet there. */
    private static final int[] ABSENT_WIRES = {6, 7, 8, 9, 10, 11, 12, 19};
    private static final int INNER = 3;

    private interface Maker {
        ExactWires make();
    }

    private interface Use {
        void of(ExactWires x);
    }

    private final Maker maker;
    private final String dueStory;

    private RefusalsTest(Maker maker) {
        this.maker = maker;
        dueStory = Story.toItsEnd(maker.make());
    }

    private void refuses(String what, String exception, Use use) {
        ExactWires x = maker.make();
        dueThrow(what, exception, () -> use.of(x));
        due(what + " changes nothing", Story.toItsEnd(x), dueStory);
    }

    /** Edges 0 to 2, an inner node 3, values, a mark that is not kept, and two moves to undo. */
    private static ExactWires inUse() {
        ExactWires x = of("eeeii", 0, 1, 6, 1, 2, 3, 2, 0, 2, 0, 1, 4, 3, 0, 5, 3, 1, 5);
        x.value(0, 7);
        x.value(1, -99);
        x.value(2, 1);
        x.mark();
        x.wire(4, 2, 9);
        x.wire(2, 2, 1);
        x.wireIs(0, 0);
        x.move(ExactWires.SPIKE, 4);
        x.move(ExactWires.LOOP, 7);
        x.move(ExactWires.STAR, 0);
        x.undo();
        x.value(2, 2);
        return x;
    }

    /** Twelve wires there and a move to undo, that took three wires away and brought three. */
    private static ExactWires twelveWires() {
        ExactWires x = of("eee", 0, 1, 1, 1, 2, 1, 2, 0, 1);
        for (int wire = 3; wire < 12; wire++) {
            x.wire(0, 1, 1);
        }
        x.move(ExactWires.STAR, 0);
        return x;
    }

    /** Twenty wires ever, three there, and a move to undo. */
    private static ExactWires twentyWires() {
        ExactWires x = of("eee", 0, 1, 1, 1, 2, 1, 2, 0, 1);
        useUp(x, 2, 17);
        x.move(ExactWires.STAR, 0);
        return x;
    }

    /** Seven nodes ever, six there, and moves to undo, one of which brought the seventh. */
    private static ExactWires sevenNodes() {
        ExactWires x = of("eeeeei", 0, 1, 1, 1, 2, 1, 2, 0, 1, 5, 3, 8);
        x.move(ExactWires.STAR, 0);
        x.move(ExactWires.SPIKE, 5);
        return x;
    }

    // ---- IndexOutOfBoundsException

    private void refusesNode(int no) {
        String node = "node " + no + ": ";
        refuses(node + "wire, first", INDEX, x -> x.wire(no, 0, 1));
        refuses(node + "wire, second", INDEX, x -> x.wire(0, no, 1));
        refuses(node + "wire, both", INDEX, x -> x.wire(no, no, 1));
        refuses(node + "wire, first, nor conductance", INDEX, x -> x.wire(no, 0, 0));
        refuses(node + "wire, second, nor conductance", INDEX, x -> x.wire(0, no, 61));
        refuses(node + "potential", INDEX, x -> x.potential(no, false));
        refuses(node + "potential, lower", INDEX, x -> x.potential(no, true));
        refuses(node + "distance, first", INDEX, x -> x.distance(no, 0, false));
        refuses(node + "distance, second", INDEX, x -> x.distance(0, no, true));
        refuses(node + "distance to itself", INDEX, x -> x.distance(no, no, false));
        refuses(node + "chance, from", INDEX, x -> x.chance(no, 0, 1, true));
        refuses(node + "chance, first", INDEX, x -> x.chance(0, no, 1, false));
        refuses(node + "chance, second", INDEX, x -> x.chance(0, 1, no, true));
        refuses(node + "chance, from, nor unlike nodes", INDEX, x -> x.chance(no, 1, 1, true));
        refuses(node + "chance, the two alike", INDEX, x -> x.chance(0, no, no, true));
        refuses(node + "SPIKE", INDEX, x -> x.move(ExactWires.SPIKE, no));
        refuses(node + "SERIES", INDEX, x -> x.move(ExactWires.SERIES, no));
        refuses(node + "TRIANGLE", INDEX, x -> x.move(ExactWires.TRIANGLE, no));
    }

    private void refusesEdge(int no) {
        String edge = "edge " + no + ": ";
        refuses(edge + "answer, first", INDEX, x -> x.answer(no, 0, false));
        refuses(edge + "answer, second", INDEX, x -> x.answer(0, no, true));
        refuses(edge + "answer, the same", INDEX, x -> x.answer(no, no, false));
        refuses(edge + "value", INDEX, x -> x.value(no, 0));
        refuses(edge + "value, nor in range", INDEX, x -> x.value(no, 100));
        refuses(edge + "value, nor in range, below", INDEX, x -> x.value(no, -100));
        refuses(edge + "current", INDEX, x -> x.current(no, false));
        refuses(edge + "current, lower", INDEX, x -> x.current(no, true));
        refuses(edge + "starred", INDEX, x -> x.starred(no, false));
        refuses(edge + "starred, lower", INDEX, x -> x.starred(no, true));
    }

    private void refusesWire(int no) {
        String wire = "wire " + no + ": ";
        for (int what = 0; what < 3; what++) {
            int each = what;
            refuses(wire + "wireIs " + what, INDEX, x -> x.wireIs(no, each));
        }
        refuses(wire + "wireIs, nor what", INDEX, x -> x.wireIs(no, 3));
        refuses(wire + "wireIs, nor what, below", INDEX, x -> x.wireIs(no, -1));
        refuses(wire + "LOOP", INDEX, x -> x.move(ExactWires.LOOP, no));
        refuses(wire + "PARALLEL", INDEX, x -> x.move(ExactWires.PARALLEL, no));
        refuses(wire + "STAR", INDEX, x -> x.move(ExactWires.STAR, no));
    }

    private void refusesStrangeNumbers() {
        for (int no : ABSENT_NODES) {
            refusesNode(no);
            refusesEdge(no);
        }
        refusesEdge(INNER);
        for (int no : ABSENT_WIRES) {
            refusesWire(no);
        }
        for (int no : FAR) {
            refusesNode(no);
            refusesEdge(no);
            refusesWire(no);
        }
    }

    private void refusesStrangeWalks() {
        for (int digit = 5; digit <= 9; digit++) {
            int no = digit;
            refuses("a walk of a node that is not there, " + no, INDEX, x -> x.erased(no));
            refuses("a walk that ends at " + no, INDEX, x -> x.erased(10 + no));
            refuses("a walk that begins at " + no, INDEX, x -> x.erased(10 * no + 1));
            refuses("a walk with a 0 behind " + no, INDEX, x -> x.erased(10 * no));
            refuses("a walk with a 0 ahead of " + no, INDEX, x -> x.erased(100 + no));
            refuses("a walk by a ring that went, to " + no, INDEX, x -> x.erased(330 + no));
            refuses("a walk of ten digits to " + no, INDEX, x -> x.erased(1111111110 + no));
            refuses("a walk of ten digits, with a 0, to " + no, INDEX, x -> x.erased(1000000000 + no));
        }
        refuses("a walk of ten digits, the greatest", INDEX, x -> x.erased(Integer.MAX_VALUE));
    }

    // ---- IllegalArgumentException

    private void refusesArguments() {
        for (int no : new int[] {0, -1, 61, 62, 257, 65537, Integer.MIN_VALUE, Integer.MAX_VALUE}) {
            refuses("a conductance of " + no, ARGUMENT, x -> x.wire(0, INNER, no));
        }
        for (int no : new int[] {-1, 3, 4, 32, 256, Integer.MIN_VALUE, Integer.MAX_VALUE}) {
            refuses("wireIs what, " + no, ARGUMENT, x -> x.wireIs(0, no));
        }
        for (int no : new int[] {-1, -2, Integer.MIN_VALUE}) {
            refuses("a tree at " + no, ARGUMENT, x -> x.tree(no));
        }
        for (int no : new int[] {100, -100, 101, 256, -256, Integer.MIN_VALUE, Integer.MAX_VALUE}) {
            refuses("a value of " + no, ARGUMENT, x -> x.value(0, no));
        }
        for (int edge = 0; edge < 3; edge++) {
            int each = edge;
            refuses("the answer of an edge and itself", ARGUMENT, x -> x.answer(each, each, false));
            refuses("the answer of an edge and itself, lower", ARGUMENT, x -> x.answer(each, each, true));
        }
        for (int node = 0; node <= INNER; node++) {
            int each = node;
            refuses("the first node is the second one", ARGUMENT, x -> x.chance(0, each, each, false));
            refuses("all three are the same", ARGUMENT, x -> x.chance(each, each, each, true));
        }
        for (int no : new int[] {-1, 6, 7, 32, 256, Integer.MIN_VALUE, Integer.MAX_VALUE}) {
            refuses("a kind of " + no, ARGUMENT, x -> x.move(no, 0));
            refuses("a kind of " + no + ", nor wire or node", ARGUMENT, x -> x.move(no, -1));
            refuses("a kind of " + no + ", nor wire or node, far", ARGUMENT, x -> x.move(no, 99));
        }
    }

    private void refusesWalks() {
        for (int no : new int[] {0, -1, -5, -10, -12, -99, -1000000000, Integer.MIN_VALUE}) {
            refuses("a walk below 1, " + no, ARGUMENT, x -> x.erased(no));
        }
        for (int no : new int[] {1111111111, 2141414141, 1000000000, 2000000000, 1212121210}) {
            refuses("a walk of ten digits, " + no, ARGUMENT, x -> x.erased(no));
        }
        for (int no : new int[] {10, 20, 101, 1202, 100000000, 123123120, 103123123, 240, 204}) {
            refuses("a walk with a 0, " + no, ARGUMENT, x -> x.erased(no));
        }
    }

    // ---- IllegalStateException

    private void refusesMoves() {
        for (int wire = 0; wire < 6; wire++) {
            int each = wire;
            refuses("LOOP of two nodes", STATE, x -> x.move(ExactWires.LOOP, each));
        }
        refuses("PARALLEL without another", STATE, x -> x.move(ExactWires.PARALLEL, 1));
        refuses("SPIKE of two wires", STATE, x -> x.move(ExactWires.SPIKE, INNER));
        refuses("SPIKE of an edge", STATE, x -> x.move(ExactWires.SPIKE, 2));
        refuses("SERIES not whole", STATE, x -> x.move(ExactWires.SERIES, INNER));
        refuses("SERIES of an edge", STATE, x -> x.move(ExactWires.SERIES, 2));
        refuses("TRIANGLE of two wires", STATE, x -> x.move(ExactWires.TRIANGLE, INNER));
        refuses("TRIANGLE of an edge", STATE, x -> x.move(ExactWires.TRIANGLE, 0));
        refuses("STAR not whole", STATE, x -> x.move(ExactWires.STAR, 4));
    }

    private void refusesWire(String because) {
        refuses(because + ": a wire", STATE, x -> x.wire(0, 1, 1));
        refuses(because + ": a ring", STATE, x -> x.wire(2, 2, 60));
        refuses(because + ": nor conductance", ARGUMENT, x -> x.wire(0, 1, 0));
        refuses(because + ": nor conductance, above", ARGUMENT, x -> x.wire(0, 1, 61));
        refuses(because + ": nor node", INDEX, x -> x.wire(7, 1, 1));
        refuses(because + ": nor second node", INDEX, x -> x.wire(0, -1, 1));
        refuses(because + ": nor node, nor conductance", INDEX, x -> x.wire(0, 6, 0));
    }

    private void refusesNodes() {
        refuses("seven nodes ever: an edge", STATE, x -> x.node(true));
        refuses("seven nodes ever: an inner node", STATE, x -> x.node(false));
    }

    private static void refusesUndo() {
        new RefusalsTest(ExactWires::new).refuses("undo of nothing", STATE, ExactWires::undo);
        RefusalsTest added = new RefusalsTest(() -> of("ee", 0, 1, 5));
        added.refuses("undo of a node and a wire", STATE, ExactWires::undo);
        RefusalsTest undone = new RefusalsTest(() -> {
            ExactWires x = of("ee", 0, 1, 5, 0, 0, 5);
            x.move(ExactWires.LOOP, 1);
            x.undo();
            return x;
        });
        undone.refuses("undo of what was undone", STATE, ExactWires::undo);
    }

    public static void main(String[] args) {
        RefusalsTest inUse = new RefusalsTest(RefusalsTest::inUse);
        inUse.refusesStrangeNumbers();
        inUse.refusesStrangeWalks();
        inUse.refusesArguments();
        inUse.refusesWalks();
        inUse.refusesMoves();
        new RefusalsTest(RefusalsTest::twelveWires).refusesWire("twelve wires there");
        new RefusalsTest(RefusalsTest::twentyWires).refusesWire("twenty wires ever");
        new RefusalsTest(RefusalsTest::sevenNodes).refusesNodes();
        refusesUndo();
        end("what is refused changes nothing");
    }
}
