/**
 * Each sentence of the document that names a boundary: too small, too large, empty, full, a
 * wrap-around. The methods stand in the document's order; what is refused is in RefusalsTest too.
 */
public final class BoundariesTest extends Due {
    private static final int LOOP = ExactWires.LOOP;
    private static final int PARALLEL = ExactWires.PARALLEL;
    private static final int SPIKE = ExactWires.SPIKE;
    private static final int SERIES = ExactWires.SERIES;
    private static final int TRIANGLE = ExactWires.TRIANGLE;
    private static final int STAR = ExactWires.STAR;

    private static void dueNotPossible(String what, ExactWires x, int kind, int which) {
        String ahead = Story.now(x);
        dueThrow(what, STATE, () -> x.move(kind, which));
        due(what + " leaves all as it was", Story.now(x), ahead);
    }

    private static void duePossible(String what, ExactWires x, int kind, int which) {
        dueThrow(what, "nothing", () -> x.move(kind, which));
    }

    /** Twelve wires among seven nodes, all of 60: a ring, and five wires to the next but one. */
    private static ExactWires greatest(String nodes) {
        ExactWires x = of(nodes);
        for (int node = 0; node < 7; node++) {
            x.wire(node, (node + 1) % 7, 60);
        }
        for (int step = 0; step < 5; step++) {
            x.wire(2 * step % 7, (2 * step + 2) % 7, 60);
        }
        return x;
    }

    // ---- "An object is used for at most 512 calls"

    private static void fiveHundredTwelveCalls() {
        ExactWires x = greatest("eeiiiii");
        int calls = 19;
        long trees = x.trees();
        calls++;
        while (calls < 510) {
            x.mark();
            due("call " + calls + ": keeps", x.keeps(), true);
            calls += 2;
        }
        due("call 511: the trees as in the 20th", x.trees(), trees);
        due("call 512: counted anew", x.treesAnew(), trees);

        ExactWires turns = of("eee", 0, 1, 1, 1, 2, 1, 2, 0, 1);
        for (calls = 6; calls < 512; calls += 2) {
            turns.move(STAR, 0);
            due("call " + calls + ": undo", turns.undo(), 0);
        }
    }

    // ---- "Nodes are numbered from 0, at most 7 in all, ever"

    private static void sevenNodesEver() {
        ExactWires x = new ExactWires();
        for (int node = 0; node < 7; node++) {
            due("a node's number", x.node(node % 2 == 0), node);
            due("the nodes so far", x.nodes(), (2 << node) - 1);
        }
        dueThrow("an eighth node", STATE, () -> x.node(true));

        ExactWires gone = of("eiiiiii", 0, 1, 1, 0, 2, 1, 0, 3, 1, 0, 4, 1, 0, 5, 1, 0, 6, 1);
        due("six spikes", gone.simplify(), 6);
        due("one node is left", gone.nodes(), 1);
        dueThrow("seven nodes ever, one there", STATE, () -> gone.node(true));
        for (int left = 5; left >= 0; left--) {
            due("all spikes can be undone still", gone.undo(), left);
        }
        dueThrow("seven nodes again", STATE, () -> gone.node(false));
    }

    private static void sevenNodesByStar() {
        ExactWires seven = of("eeeeeee", 0, 1, 1, 1, 2, 1, 2, 0, 1);
        dueNotPossible("STAR with seven nodes", seven, STAR, 0);
        ExactWires gone = of("eeeeeei", 0, 1, 1, 1, 2, 1, 2, 0, 1, 6, 3, 1);
        gone.move(SPIKE, 6);
        dueNotPossible("STAR with seven nodes ever, six there", gone, STAR, 0);

        ExactWires six = of("eeeeee", 0, 1, 1, 1, 2, 1, 2, 0, 1);
        duePossible("STAR brings the seventh node", six, STAR, 0);
        due("seven nodes there", six.nodes(), 127);
        dueThrow("an eighth node behind STAR", STATE, () -> six.node(false));
        duePossible("TRIANGLE takes the seventh node", six, TRIANGLE, 6);
        dueNotPossible("its number is not used again", six, STAR, 6);
        six.undo();
        six.undo();
        due("by undoing its number is used again", six.node(true), 6);
        due("the answer of the seventh node, an edge now", six.answer(0, 6, true), 1);
        dueThrow("an eighth node behind undoing", STATE, () -> six.node(true));
    }

    // ---- "Wires are numbered from 0, at most 20 ever, at most 12 of which are there at a time"

    private static void twelveWiresThere() {
        ExactWires x = of("ee");
        for (int wire = 0; wire < 12; wire++) {
            due("a wire's number", x.wire(0, 1, 1 + wire), wire);
            due("the wires so far", x.wires(), (2 << wire) - 1);
        }
        dueThrow("a thirteenth wire there", STATE, () -> x.wire(0, 1, 1));
        x.move(PARALLEL, 11);
        due("the thirteenth ever, as eleven are there", x.wire(1, 1, 60), 12);
        due("twelve there again", x.wires(), 0b1111111111110);
        dueThrow("a thirteenth wire there again", STATE, () -> x.wire(0, 1, 1));
        x.move(LOOP, 12);
        x.undo();
        dueThrow("undoing brings the twelfth back", STATE, () -> x.wire(0, 1, 1));

        ExactWires full = of("eeei", 0, 1, 3, 1, 2, 3, 2, 0, 3);
        for (int wire = 3; wire < 12; wire++) {
            full.wire(3, 3, 1);
        }
        duePossible("STAR with twelve wires there", full, STAR, 0);
        dueThrow("STAR leaves as many wires", STATE, () -> full.wire(0, 1, 1));
        duePossible("TRIANGLE with twelve wires there", full, TRIANGLE, 4);
        dueThrow("TRIANGLE leaves as many wires", STATE, () -> full.wire(0, 1, 1));
        due("twelve wires, all moved on", full.wires(), 0b111000111111111000);
    }

    private static void twentyWiresEver() {
        ExactWires x = of("e");
        useUp(x, 0, 19);
        due("the twentieth wire", x.wire(0, 0, 60), 19);
        due("the twentieth wire as a set", x.wires(), 1 << 19);
        due("the twentieth wire's conductance", x.wireIs(19, 2), 60);
        dueThrow("a twenty-first wire", STATE, () -> x.wire(0, 0, 1));
        x.move(LOOP, 19);
        due("no wire there", x.wires(), 0);
        dueThrow("a twenty-first wire, none there", STATE, () -> x.wire(0, 0, 1));
        due("a wire that is refused forgets no move", x.undo(), 0);
        due("the twentieth is there again", x.wires(), 1 << 19);
        dueThrow("a twenty-first wire behind undoing", STATE, () -> x.wire(0, 0, 1));
        due("a node needs no room for wires", x.node(true), 1);
    }

    private static void twentyWiresBySeries() {
        ExactWires last = of("eie", 0, 1, 2, 1, 2, 2);
        useUp(last, 0, 19);
        duePossible("SERIES brings the twentieth wire", last, SERIES, 1);
        dueWire("SERIES, the twentieth wire", last, 19, 0, 2, 1);
        dueThrow("a wire behind it", STATE, () -> last.wire(0, 2, 1));
        last.undo();
        due("by undoing its number is used again", last.wire(2, 2, 7), 19);
        dueNotPossible("SERIES with twenty wires ever", last, SERIES, 1);

        ExactWires x = of("eiei", 0, 1, 2, 1, 2, 2, 2, 3, 5);
        useUp(x, 2, 18);
        x.wire(2, 2, 1);
        x.wire(0, 0, 1);
        due("simplified without SERIES", x.simplify(), 3);
        due("SERIES was not possible, nodes", x.nodes(), 0b0111);
        due("SERIES was not possible, wires", x.wires(), 0b11);
    }

    private static void twentyWiresByTriangleAndStar() {
        ExactWires triangle = of("ieee", 0, 1, 3, 0, 2, 3, 0, 3, 3);
        useUp(triangle, 1, 17);
        duePossible("TRIANGLE brings the last three wires", triangle, TRIANGLE, 0);
        due("TRIANGLE, the last three", triangle.wires(), 0b111 << 17);
        dueWire("TRIANGLE, the very last", triangle, 19, 2, 3, 1);
        triangle.undo();
        triangle.wire(1, 1, 1);
        dueNotPossible("TRIANGLE with room for two wires", triangle, TRIANGLE, 0);

        ExactWires star = of("eee", 0, 1, 1, 1, 2, 1, 2, 0, 1);
        useUp(star, 1, 17);
        duePossible("STAR brings the last three wires", star, STAR, 0);
        due("STAR, the last three", star.wires(), 0b111 << 17);
        dueWire("STAR, the very last", star, 19, 2, 3, 3);
        due("a tree of the last wires", star.tree(0), 0b111 << 17);
        star.undo();
        star.wire(1, 1, 1);
        dueNotPossible("STAR with room for two wires", star, STAR, 0);
    }

    // ---- "a wire joins two nodes, or a node with itself, with a conductance, 1 to 60"

    private static void conductances() {
        ExactWires x = of("ee");
        for (int conductance = 1; conductance <= 60; conductance += 59) {
            int wire = x.wire(1, 0, conductance);
            dueWire("the least and the greatest", x, wire, 1, 0, conductance);
            int ring = x.wire(1, 1, conductance);
            dueWire("the least and the greatest, a ring", x, ring, 1, 1, conductance);
        }
        dueThrow("a conductance too small", ARGUMENT, () -> x.wire(0, 1, 0));
        dueThrow("a conductance too large", ARGUMENT, () -> x.wire(0, 1, 61));
        dueAnswer("the sum of both", x, 0, 1, 61, 1);
    }

    // ---- "A node or wire that a move took away is not there any more"

    private static void goneNumbers() {
        ExactWires x = of("eiei", 0, 1, 2, 1, 2, 2, 2, 3, 1);
        x.move(SPIKE, 3);
        due("the number of a wire that went is not used again", x.wire(0, 0, 1), 3);
        due("the number of a node that went is not used again", x.node(false), 4);
        x.wire(4, 0, 1);
        x.move(SERIES, 1);
        due("what SERIES brought", x.wires(), 0b111000);
        due("the nodes behind SERIES", x.nodes(), 0b10101);
        x.undo();
        due("behind undoing", x.wires(), 0b11011);
        dueThrow("what SERIES brought is not there", INDEX, () -> x.wireIs(5, 0));
        due("by undoing its number is used again", x.wire(0, 2, 9), 5);
        dueWire("as another wire", x, 5, 0, 2, 9);
    }

    // ---- "A forest is a set of wires that are there, without a ring"

    private static void forests() {
        ExactWires rings = of("ee", 0, 0, 5, 1, 1, 7, 0, 1, 3, 1, 0, 4);
        due("rings are in no tree", rings.trees(), 7);
        due("rings are in no tree, anew", rings.treesAnew(), 7);
        due("the first tree", rings.tree(0), 0b0100);
        due("two wires of the same nodes are in no tree", rings.tree(1), 0b1000);
        due("no third tree", rings.tree(2), ExactWires.NONE);
        rings.move(PARALLEL, 2);
        due("a wire that went is in no tree", rings.tree(1), ExactWires.NONE);
        due("a wire that went counts no more", rings.trees(), 7);
        due("nor anew", rings.treesAnew(), 7);

        ExactWires one = of("i");
        due("one node, without wires: its weight is 1", one.trees(), 1);
        due("one node, anew", one.treesAnew(), 1);
        due("one node: the empty set", one.tree(0), 0);
        due("one node: one tree alone", one.tree(1), ExactWires.NONE);
        ExactWires two = of("ii");
        due("two nodes, each by itself", two.trees(), 0);
        due("two nodes, anew", two.treesAnew(), 0);
        due("two nodes, no tree", two.tree(0), ExactWires.NONE);
        ExactWires none = new ExactWires();
        due("without nodes", none.trees(), 0);
        due("without nodes, anew", none.treesAnew(), 0);
        due("without nodes, no tree", none.tree(0), ExactWires.NONE);
    }

    // ---- "The rest: ... There is none, if a node is joined with no edge; without nodes the empty one is"

    private static void theRest() {
        due("without nodes", new ExactWires().rest(), 1);
        due("edges alone", of("eeeeeee").rest(), 1);
        due("edges that are joined: no wire may be in it", of("ee", 0, 1, 9, 0, 0, 4).rest(), 1);
        due("an inner node by itself", of("i").rest(), 0);
        due("an inner node by itself beside an edge", of("ei").rest(), 0);
        due("inner nodes joined with each other", of("eii", 1, 2, 5).rest(), 0);
        due("an inner node with a ring", of("ei", 1, 1, 5).rest(), 0);
        due("inner nodes joined with one edge", of("eii", 1, 2, 5, 0, 1, 7).rest(), 35);
        due("seven inner nodes, all joined", greatest("iiiiiii").rest(), 0);
        due("one edge: the trees", greatest("iiiiiie").rest(), 15629760000000L);
        ExactWires x = of("ei", 0, 1, 7);
        x.move(SPIKE, 1);
        due("an inner node that went", x.rest(), 1);
    }

    // ---- "Fractions are told in lowest terms, the lower part above 0, the upper part with the sign; 0 is 0 by 1"

    private static void fractions() {
        ExactWires x = of("eeie", 0, 2, 20, 2, 1, 40);
        dueAnswer("40 by 3", x, 0, 1, 40, 3);
        dueAnswer("0 is 0 by 1", x, 0, 3, 0, 1);
        dueFraction("no current", part -> x.current(0, part), 0, 1);
        dueFraction("no power", x::power, 0, 1);
        dueFraction("no potential", part -> x.potential(2, part), 0, 1);
        dueFraction("the potential of an edge at 0", part -> x.potential(0, part), 0, 1);
        x.value(0, -1);
        dueFraction("a potential below 0", part -> x.potential(2, part), -1, 3);
        dueFraction("a current below 0", part -> x.current(0, part), -40, 3);
        dueFraction("a current above 0", part -> x.current(1, part), 40, 3);
        dueFraction("a power", x::power, 40, 3);
        dueFraction("the potential of an edge below 0", part -> x.potential(0, part), -1, 1);
        x.value(0, 2);
        x.value(1, -1);
        dueFraction("values that even out", part -> x.potential(2, part), 0, 1);
        dueFraction("a whole current", part -> x.current(0, part), 40, 1);
        x.value(0, -1);
        dueFraction("like values: no current", part -> x.current(0, part), 0, 1);
        dueFraction("like values: no power", x::power, 0, 1);
        dueFraction("like values: the same between", part -> x.potential(2, part), -1, 1);
    }

    // ---- "The answer of two unlike edges"

    private static void answers() {
        dueAnswer("two edges without wires", of("ee"), 0, 1, 0, 1);
        dueAnswer("one wire", of("ee", 1, 0, 60), 0, 1, 60, 1);
        dueAnswer("all twelve wires", twelveOfSixty(), 0, 1, 720, 1);
        ExactWires seven = of("eeeeeee", 0, 6, 13, 5, 6, 9);
        dueAnswer("the first and the last of seven edges", seven, 0, 6, 13, 1);
        dueAnswer("not by way of another edge", seven, 0, 5, 0, 1);
        dueThrow("an edge and itself", ARGUMENT, () -> seven.answer(6, 6, true));
        dueThrow("an edge and none", INDEX, () -> seven.answer(0, 7, true));
    }

    private static ExactWires twelveOfSixty() {
        ExactWires x = of("ee");
        for (int wire = 0; wire < 12; wire++) {
            x.wire(wire % 2, 1 - wire % 2, 60);
        }
        return x;
    }

    // ---- "values of the edges, -99 to 99 each, 0 at first"

    private static void values() {
        ExactWires x = of("eeeeeee", 0, 6, 60);
        for (int edge = 0; edge < 7; edge++) {
            int each = edge;
            dueFraction("0 at first", part -> x.potential(each, part), 0, 1);
        }
        x.value(0, -99);
        x.value(6, 99);
        dueFraction("the least value", part -> x.potential(0, part), -99, 1);
        dueFraction("the greatest value", part -> x.potential(6, part), 99, 1);
        dueFraction("another edge's value is as it was", part -> x.potential(5, part), 0, 1);
        dueFraction("the least current", part -> x.current(0, part), -11880, 1);
        dueFraction("the greatest current", part -> x.current(6, part), 11880, 1);
        dueThrow("a value too large", ARGUMENT, () -> x.value(6, 100));
        dueThrow("a value too small", ARGUMENT, () -> x.value(0, -100));
        dueFraction("behind what was refused", part -> x.potential(6, part), 99, 1);
        x.value(6, 98);
        dueFraction("the latest value holds", part -> x.potential(6, part), 98, 1);
    }

    // ---- "If a count by which something is divided is 0, it is told as 0 by 0"

    private static void dividedByNone() {
        ExactWires x = of("eeei", 0, 1, 5, 1, 2, 5, 2, 0, 5);
        x.value(0, 7);
        dueAnswer("an answer, the rest is 0", x, 0, 1, 0, 0);
        dueFraction("a current, the rest is 0", part -> x.current(0, part), 0, 0);
        dueFraction("the power, the rest is 0", x::power, 0, 0);
        dueFraction("an inner node, the rest is 0", part -> x.potential(3, part), 0, 0);
        dueFraction("an edge, the rest is 0", part -> x.potential(0, part), 7, 1);
        dueFraction("a star, the rest is 0", part -> x.starred(0, part), 0, 0);
        dueFraction("the power, inner nodes alone", of("ii", 0, 1, 1)::power, 0, 0);
        dueFraction("the power, without nodes", new ExactWires()::power, 0, 1);
        ExactWires one = of("e");
        one.value(0, 99);
        dueFraction("the power of one edge", one::power, 0, 1);
        dueFraction("the current of one edge", part -> one.current(0, part), 0, 1);

        ExactWires apart = of("ie");
        dueFraction("a distance without trees, with forests of two", part -> apart.distance(0, 1, part), 0, 0);
        dueFraction("a distance without trees, to itself", part -> apart.distance(1, 1, part), 0, 1);
        dueFraction("a chance with one forest of two trees", part -> apart.chance(0, 0, 1, part), 1, 1);
        ExactWires far = of("iii");
        dueFraction("a distance without trees, nor forests of two", part -> far.distance(0, 1, part), 0, 0);
        dueFraction("a chance without forests of two, at the first", part -> far.chance(0, 0, 1, part), 0, 0);
        dueFraction("a chance without forests of two, at the second", part -> far.chance(1, 0, 1, part), 0, 0);
        dueFraction("a chance without forests of two, elsewhere", part -> far.chance(2, 0, 1, part), 0, 0);
        far.wire(0, 1, 3);
        dueFraction("a chance that always joins the two", part -> far.chance(2, 0, 1, part), 0, 0);
        dueFraction("a chance, with the first alone", part -> far.chance(0, 1, 2, part), 1, 1);
    }

    // ---- "The distance of two nodes that are there ...; 0 from a node to itself"

    private static void distances() {
        ExactWires x = of("iiiiiii", 0, 1, 1, 1, 2, 1, 2, 3, 1, 3, 4, 1, 4, 5, 1, 5, 6, 60);
        dueFraction("from the first node to the last", part -> x.distance(0, 6, part), 301, 60);
        dueFraction("and back", part -> x.distance(6, 0, part), 301, 60);
        dueFraction("from the last to itself", part -> x.distance(6, 6, part), 0, 1);
        dueFraction("the chance at the node ahead of the last", part -> x.chance(5, 6, 0, part), 300, 301);
        dueFraction("the chance of the other", part -> x.chance(5, 0, 6, part), 1, 301);
        ExactWires one = of("e");
        dueFraction("of the only node", part -> one.distance(0, 0, part), 0, 1);
        dueThrow("the only node twice", ARGUMENT, () -> one.chance(0, 0, 0, true));
        ExactWires rings = of("ee", 0, 0, 60, 0, 1, 2, 1, 1, 60);
        dueFraction("rings bring nothing nearer", part -> rings.distance(0, 1, part), 1, 2);
    }

    // ---- LOOP

    private static void loops() {
        ExactWires x = of("ei", 0, 0, 1, 1, 1, 60, 0, 1, 2, 1, 1, 3);
        dueNotPossible("LOOP of two nodes", x, LOOP, 2);
        duePossible("LOOP of wire 0", x, LOOP, 0);
        duePossible("LOOP of a node with another ring", x, LOOP, 3);
        due("LOOP takes one wire away", x.wires(), 0b0110);
        dueThrow("LOOP of a wire that went", INDEX, () -> x.move(LOOP, 3));
        duePossible("LOOP of the last ring", x, LOOP, 1);
        due("LOOP leaves the nodes", x.nodes(), 3);

        ExactWires behind = of("iee", 0, 1, 2, 1, 0, 2, 2, 2, 1);
        dueNotPossible("SERIES to one node, ahead of LOOP", behind, SERIES, 0);
        duePossible("LOOP behind what was refused", behind, LOOP, 2);
        due("LOOP takes nothing else away", behind.wires(), 0b011);
        due("LOOP takes no node away", behind.nodes(), 0b111);
    }

    // ---- PARALLEL: "with the lowest other wire there that joins the same two unlike nodes"

    private static void parallels() {
        ExactWires x = of("eee", 0, 1, 1, 0, 1, 2, 1, 0, 4, 0, 1, 8, 1, 2, 16);
        dueNotPossible("PARALLEL without another", x, PARALLEL, 4);
        duePossible("PARALLEL of the second wire", x, PARALLEL, 1);
        dueWire("with the lowest one", x, 1, 0, 1, 3);
        duePossible("PARALLEL of the last wire", x, PARALLEL, 3);
        dueWire("the lowest one that is there", x, 3, 0, 1, 11);
        due("the wires that are left", x.wires(), 0b11100);
        duePossible("PARALLEL of the lowest wire", x, PARALLEL, 2);
        dueWire("it keeps its nodes' order", x, 2, 1, 0, 15);
        dueNotPossible("PARALLEL of the only one left", x, PARALLEL, 2);

        ExactWires rings = of("e", 0, 0, 1, 0, 0, 1);
        dueNotPossible("PARALLEL of rings", rings, PARALLEL, 0);
        dueNotPossible("PARALLEL of rings, the higher one", rings, PARALLEL, 1);
        ExactWires most = of("ee", 0, 1, 59, 0, 1, 1, 0, 1, 1);
        duePossible("PARALLEL to 60", most, PARALLEL, 0);
        due("PARALLEL to 60, its conductance", most.wireIs(0, 2), 60);
        dueNotPossible("PARALLEL to 61", most, PARALLEL, 0);
        dueNotPossible("PARALLEL to 61, of the other", most, PARALLEL, 2);
    }

    // ---- SPIKE: "of an inner node with just one wire, that is none of it with itself"

    private static void spikes() {
        dueNotPossible("SPIKE without wires", of("i"), SPIKE, 0);
        dueNotPossible("SPIKE of a ring", of("ie", 0, 0, 1), SPIKE, 0);
        dueNotPossible("SPIKE with a ring beside the wire", of("ie", 0, 0, 1, 0, 1, 1), SPIKE, 0);
        dueNotPossible("SPIKE of two wires", of("iee", 0, 1, 1, 0, 2, 1), SPIKE, 0);
        dueNotPossible("SPIKE of two wires to one node", of("ie", 0, 1, 1, 0, 1, 1), SPIKE, 0);
        dueNotPossible("SPIKE of an edge", of("ie", 0, 1, 1), SPIKE, 1);
        ExactWires pair = of("ii", 0, 1, 60);
        duePossible("SPIKE of one of two inner nodes", pair, SPIKE, 1);
        due("the other one is left", pair.nodes(), 1);
        due("its wire went", pair.wires(), 0);
        dueNotPossible("SPIKE of what is left", pair, SPIKE, 0);
        ExactWires last = of("eiiiiii", 0, 6, 1, 0, 0, 1);
        duePossible("SPIKE of the last node", last, SPIKE, 6);
        due("the last node went", last.nodes(), 63);
        due("only its wire went", last.wires(), 2);
    }

    // ---- SERIES: "of an inner node with just two wires, to two unlike other nodes"

    private static void series() {
        dueNotPossible("SERIES without wires", of("iee"), SERIES, 0);
        dueNotPossible("SERIES of one wire", of("iee", 0, 1, 2), SERIES, 0);
        dueNotPossible("SERIES of three wires", of("ieee", 0, 1, 2, 0, 2, 2, 0, 3, 4), SERIES, 0);
        dueNotPossible("SERIES to one node", of("iee", 0, 1, 2, 1, 0, 2), SERIES, 0);
        dueNotPossible("SERIES with a ring as the second wire", of("iee", 0, 1, 2, 0, 0, 2), SERIES, 0);
        dueNotPossible("SERIES with a ring as the third wire", of("iee", 0, 1, 2, 0, 2, 2, 0, 0, 2), SERIES, 0);
        dueNotPossible("SERIES of an edge", of("eee", 0, 1, 2, 0, 2, 2), SERIES, 0);
        dueNotPossible("SERIES to a half", of("iee", 0, 1, 1, 0, 2, 1), SERIES, 0);
        dueNotPossible("SERIES to 60 by 61", of("iee", 0, 1, 1, 0, 2, 60), SERIES, 0);
        ExactWires least = of("iee", 2, 0, 2, 0, 1, 2);
        duePossible("SERIES to 1", least, SERIES, 0);
        dueWire("the node of the lower wire first", least, 2, 2, 1, 1);
        ExactWires most = of("iei", 0, 1, 60, 0, 2, 60);
        duePossible("SERIES of 60 and 60", most, SERIES, 0);
        dueWire("the greatest that SERIES brings", most, 2, 1, 2, 30);
    }

    // ---- TRIANGLE: "of an inner node with just three wires, to three unlike other nodes"

    private static void triangles() {
        dueNotPossible("TRIANGLE without wires", of("ieee"), TRIANGLE, 0);
        dueNotPossible("TRIANGLE of two wires", of("ieee", 0, 1, 2, 0, 2, 2), TRIANGLE, 0);
        dueNotPossible("TRIANGLE of four wires",
                of("ieeee", 0, 1, 4, 0, 2, 4, 0, 3, 4, 0, 4, 4), TRIANGLE, 0);
        for (int twice = 0; twice < 3; twice++) {
            int[] ends = {1, 2, 3};
            ends[twice] = ends[(twice + 1) % 3];
            dueNotPossible("TRIANGLE with a node twice",
                    of("ieee", 0, ends[0], 3, 0, ends[1], 3, 0, ends[2], 3), TRIANGLE, 0);
            ends[twice] = 0;
            dueNotPossible("TRIANGLE with a ring",
                    of("ieee", 0, ends[0], 3, 0, ends[1], 3, 0, ends[2], 3), TRIANGLE, 0);
        }
        dueNotPossible("TRIANGLE with a ring as the fourth wire",
                of("ieee", 0, 1, 3, 0, 2, 3, 0, 3, 3, 0, 0, 3), TRIANGLE, 0);
        dueNotPossible("TRIANGLE of an edge", of("eeee", 0, 1, 3, 0, 2, 3, 0, 3, 3), TRIANGLE, 0);
        dueNotPossible("TRIANGLE, the first one not whole", of("ieee", 0, 1, 2, 0, 2, 2, 0, 3, 4), TRIANGLE, 0);
        dueNotPossible("TRIANGLE, the second one not whole", of("ieee", 0, 1, 2, 0, 2, 4, 0, 3, 2), TRIANGLE, 0);
        dueNotPossible("TRIANGLE, the third one not whole", of("ieee", 0, 1, 4, 0, 2, 2, 0, 3, 2), TRIANGLE, 0);
        ExactWires least = of("ieee", 0, 3, 4, 0, 1, 4, 2, 0, 8);
        duePossible("TRIANGLE to 1", least, TRIANGLE, 0);
        dueWire("of the first and second one", least, 3, 3, 1, 1);
        dueWire("of the first and third one", least, 4, 3, 2, 2);
        dueWire("of the second and third one", least, 5, 1, 2, 2);
        ExactWires most = of("ieee", 0, 1, 60, 0, 2, 60, 0, 3, 60);
        duePossible("TRIANGLE of 60", most, TRIANGLE, 0);
        due("the greatest that TRIANGLE brings", most.wireIs(5, 2), 20);
        due("TRIANGLE takes the node away", most.nodes(), 0b1110);
        due("TRIANGLE takes its wires away", most.wires(), 0b111000);
    }

    // ---- STAR: "with the lowest two wires that are a triangle with it"

    private static void stars() {
        dueNotPossible("STAR of a wire alone", of("ee", 0, 1, 1), STAR, 0);
        dueNotPossible("STAR of two sides", of("eee", 0, 1, 1, 1, 2, 1), STAR, 0);
        dueNotPossible("STAR of three wires in a row", of("eeee", 0, 1, 1, 1, 2, 1, 2, 3, 1), STAR, 1);
        dueNotPossible("STAR of a ring", of("eee", 0, 0, 1, 0, 1, 1, 1, 0, 1), STAR, 0);
        dueNotPossible("STAR with a ring", of("eee", 0, 1, 1, 0, 0, 1, 1, 0, 1), STAR, 0);
        dueNotPossible("STAR of three wires of the same nodes", of("eee", 0, 1, 1, 0, 1, 1, 1, 0, 1), STAR, 0);
        dueNotPossible("STAR, of the first node, not whole", of("eee", 0, 1, 1, 0, 2, 1, 1, 2, 2), STAR, 0);
        dueNotPossible("STAR, of the second node, not whole", of("eee", 0, 1, 1, 0, 2, 2, 1, 2, 1), STAR, 0);
        dueNotPossible("STAR, of the third node, not whole", of("eee", 0, 1, 2, 0, 2, 1, 1, 2, 1), STAR, 0);
        dueNotPossible("STAR, of the first node, above 60", of("eee", 0, 1, 7, 0, 2, 7, 1, 2, 1), STAR, 0);
        dueNotPossible("STAR, of the second node, above 60", of("eee", 0, 1, 7, 0, 2, 1, 1, 2, 7), STAR, 0);
        dueNotPossible("STAR, of the third node, above 60", of("eee", 0, 1, 1, 0, 2, 7, 1, 2, 7), STAR, 0);
        dueNotPossible("STAR to 63", of("eee", 0, 1, 21, 0, 2, 21, 1, 2, 21), STAR, 0);
        ExactWires most = of("eee", 0, 1, 20, 0, 2, 20, 1, 2, 20);
        duePossible("STAR to 60", most, STAR, 0);
        for (int wire = 3; wire < 6; wire++) {
            dueWire("STAR to 60", most, wire, wire - 3, 3, 60);
        }
        ExactWires zero = of("eee", 0, 1, 2, 0, 1, 4, 1, 2, 4, 2, 0, 4);
        duePossible("STAR with wire 0", zero, STAR, 2);
        due("STAR takes wire 0 away", zero.wires(), 0b1110010);
        dueWire("STAR with wire 0, of the node across from it", zero, 5, 2, 3, 16);
        ExactWires last = of("eee", 0, 1, 1, 0, 1, 1, 1, 2, 1, 2, 0, 1);
        duePossible("STAR of a wire that is not the lowest", last, STAR, 3);
        dueWire("STAR, of its first node", last, 4, 2, 3, 3);
        dueWire("STAR, of its second node", last, 5, 0, 3, 3);
        dueWire("STAR, of the third node", last, 6, 1, 3, 3);
        due("STAR with the lowest of two wires", last.wires(), 0b1110010);
    }

    private static void lowestOfStars() {
        // At node 1: a ring, a wire of the same nodes, one that is in no triangle, then two triangles.
        ExactWires x = of("eeeee", 1, 1, 2, 0, 1, 2, 1, 4, 2, 3, 1, 3, 1, 2, 3, 0, 2, 6, 1, 0, 6, 0, 3, 2, 3, 0, 9);
        duePossible("STAR with the lowest two", x, STAR, 6);
        dueWire("the lowest second one, of its first node", x, 9, 1, 5, 18);
        dueWire("the lowest second one, of its second node", x, 10, 0, 5, 12);
        dueWire("the lowest third one", x, 11, 3, 5, 6);
        due("what STAR took away", x.wires(), 0b111100110111);

        ExactWires gone = of("eee", 0, 2, 5, 0, 2, 1, 1, 2, 4, 2, 1, 2, 0, 1, 6);
        gone.move(PARALLEL, 1);
        gone.move(PARALLEL, 3);
        duePossible("STAR without the lower wires that went", gone, STAR, 4);
        dueWire("6, 6 and 6", gone, 5, 0, 3, 18);
    }

    // ---- "To add a node or wire forgets all moves that could be undone"

    private static void forgotten() {
        ExactWires x = of("eee", 0, 0, 1, 1, 1, 1, 2, 2, 1);
        dueThrow("nothing to undo at first", STATE, x::undo);
        x.move(LOOP, 0);
        x.move(LOOP, 1);
        x.value(0, 5);
        x.mark();
        x.keeps();
        due("simplified", x.simplify(), 1);
        due("nothing else forgets moves", x.undo(), 2);
        due("the second", x.undo(), 1);
        x.node(false);
        dueThrow("a node forgets all moves", STATE, x::undo);
        due("what they did stays", x.wires(), 0b110);
        x.move(LOOP, 2);
        x.wire(3, 0, 1);
        dueThrow("a wire forgets all moves", STATE, x::undo);
        due("what they did stays again", x.wires(), 0b1010);
        x.move(SPIKE, 3);
        due("a later move can be undone", x.undo(), 0);
        due("it alone is taken back", x.wires(), 0b1010);
    }

    private static void undoneAll() {
        // One move of each kind; each is taken back to what stood ahead of it.
        ExactWires x = of("eeeii", 0, 1, 4, 1, 2, 3, 2, 0, 2, 0, 1, 2, 2, 2, 9, 3, 0, 5, 4, 2, 6, 1, 4, 3);
        x.value(0, -99);
        x.mark();
        int[][] moves = {{LOOP, 4}, {PARALLEL, 3}, {STAR, 3}, {TRIANGLE, 5}, {SPIKE, 3}, {SERIES, 4}};
        String[] ahead = new String[moves.length];
        for (int place = 0; place < moves.length; place++) {
            ahead[place] = Story.now(x);
            duePossible("the move " + place, x, moves[place][0], moves[place][1]);
            due("the move " + place + " keeps all answers", x.keeps(), true);
        }
        for (int place = moves.length - 1; place >= 0; place--) {
            due("undo returns how many are left", x.undo(), place);
            due("undone to ahead of " + place, Story.now(x), ahead[place]);
        }
        dueThrow("nothing is left", STATE, x::undo);
    }

    // ---- "values and the mark stay"

    private static void whatUndoingLeaves() {
        ExactWires x = of("eei", 0, 1, 1, 0, 0, 1, 0, 2, 1);
        x.value(0, 1);
        x.mark();
        x.wire(0, 1, 1);
        due("another answer than at the first mark", x.keeps(), false);
        x.move(LOOP, 1);
        x.move(SPIKE, 2);
        x.value(0, -99);
        x.mark();
        x.undo();
        due("undoing leaves the later mark", x.keeps(), true);
        dueFraction("undoing leaves the value", part -> x.potential(0, part), -99, 1);
        dueFraction("the inner node that is back has it", part -> x.potential(2, part), -99, 1);
        due("the other move can be undone still", x.undo(), 0);
        due("undoing all leaves the later mark", x.keeps(), true);
        dueFraction("undoing all leaves the value", part -> x.potential(0, part), -99, 1);
    }

    // ---- "To simplify does moves as long as one of LOOP, PARALLEL, SPIKE and SERIES is possible"

    /** Simplifies, then undoes all moves but the first one. */
    private static int simplifyOnce(ExactWires x) {
        int done = x.simplify();
        for (int left = done - 1; left > 0; left--) {
            due("undone to the first move", x.undo(), left);
        }
        return done;
    }

    private static void simplified() {
        due("without nodes", new ExactWires().simplify(), 0);
        due("without wires", of("eiiiiii").simplify(), 0);
        ExactWires rings = of("i");
        for (int wire = 0; wire < 12; wire++) {
            rings.wire(0, 0, 60);
        }
        due("twelve rings", rings.simplify(), 12);
        due("no wire left", rings.wires(), 0);
        due("no move left", rings.simplify(), 0);
        due("simplifying nothing forgets no move", rings.undo(), 11);
        ExactWires parallel = of("ee");
        for (int wire = 0; wire < 12; wire++) {
            parallel.wire(wire % 2, 1 - wire % 2, 5);
        }
        due("twelve wires of the same nodes", parallel.simplify(), 11);
        dueWire("the lowest is left", parallel, 0, 0, 1, 60);
        ExactWires chain = of("iiiiiie", 0, 1, 1, 1, 2, 2, 2, 3, 3, 3, 4, 4, 4, 5, 5, 5, 6, 6);
        due("a chain", chain.simplify(), 6);
        due("its edge is left", chain.nodes(), 64);
        ExactWires last = of("eiiiiii", 0, 6, 2, 0, 0, 1);
        useUp(last, 0, 19);
        last.wire(6, 6, 1);
        due("the last wire, then the last node", last.simplify(), 3);
        due("the last node went", last.nodes(), 63);
        due("the last wire went", last.wires(), 0);
    }

    private static void simplifiedInOrder() {
        ExactWires loops = of("iee", 0, 1, 2, 1, 1, 1, 1, 2, 3, 2, 1, 3, 2, 2, 1);
        due("LOOP twice, PARALLEL, SPIKE", simplifyOnce(loops), 4);
        due("LOOP first, the lowest", loops.wires(), 0b11101);
        ExactWires zero = of("ee", 0, 0, 1, 1, 1, 1);
        due("LOOP of wire 0", simplifyOnce(zero), 2);
        due("LOOP of wire 0 first", zero.wires(), 0b10);
        ExactWires parallels = of("iee", 0, 1, 2, 1, 2, 3, 2, 1, 4);
        due("PARALLEL, SPIKE", simplifyOnce(parallels), 2);
        due("PARALLEL ahead of SPIKE", parallels.wires(), 0b011);
        dueWire("PARALLEL of the lowest wire", parallels, 1, 1, 2, 7);
        ExactWires spikes = of("ieiie", 0, 1, 6, 0, 4, 3, 2, 1, 1, 3, 1, 1);
        due("SPIKE twice, SERIES", simplifyOnce(spikes), 3);
        due("SPIKE ahead of SERIES, the lowest", spikes.nodes(), 0b11011);
        ExactWires series = of("iieee", 0, 2, 6, 0, 3, 3, 1, 3, 4, 1, 4, 4, 2, 3, 5);
        due("SERIES, PARALLEL, SERIES", simplifyOnce(series), 3);
        due("SERIES of the lowest node first", series.nodes(), 0b11110);
        due("SERIES of the lowest node first, wires", series.wires(), 0b111100);
        ExactWires again = of("iieee", 0, 2, 6, 0, 3, 3, 1, 3, 4, 1, 4, 4, 2, 3, 5);
        due("a second time", again.simplify(), 3);
        again.undo();
        due("PARALLEL, possible again, ahead of the next SERIES", again.wires(), 0b11100);
        dueWire("PARALLEL of the lower wire", again, 4, 2, 3, 7);
        ExactWires refused = of("iieee", 0, 2, 1, 0, 3, 1, 1, 3, 4, 1, 4, 4);
        due("SERIES of the lowest node that it is possible of", refused.simplify(), 1);
        due("the other node is left", refused.nodes(), 0b11101);
    }

    // ---- "treesAnew ...; 0 without nodes", asked again

    private static void treesAgain() {
        ExactWires x = of("iee", 0, 1, 2, 1, 2, 3, 2, 0, 5);
        due("trees", x.trees(), 31);
        due("anew", x.treesAnew(), 31);
        due("anew, again", x.treesAnew(), 31);
        x.wire(1, 1, 60);
        x.wire(0, 2, 1);
        due("anew, behind a wire", x.treesAnew(), 36);
        ExactWires y = of("iee", 0, 1, 2);
        due("anew, apart", y.treesAnew(), 0);
        y.wire(1, 2, 3);
        due("anew, joined", y.treesAnew(), 6);
        y.move(SPIKE, 0);
        due("anew, without its lowest node", y.treesAnew(), 3);
        due("anew, without its lowest node, again", y.treesAnew(), 3);
        y.undo();
        due("anew, behind undoing", y.treesAnew(), 6);
    }

    // ---- "tree ... from 0, by the sets of their wires as numbers; NONE if there are not so many"

    private static void treesInOrder() {
        ExactWires x = greatest("eiiiiie");
        due("the greatest count", x.trees(), 15629760000000L);
        due("the greatest count, anew", x.treesAnew(), 15629760000000L);
        // Each tree weighs 60 to the sixth, so there are 335.
        int before = -1;
        for (int place = 0; place < 335; place++) {
            int set = x.tree(place);
            due("tree " + place + " is above the one before", set > before, true);
            due("tree " + place + " has six wires", Integer.bitCount(set), 6);
            before = set;
        }
        for (int place : new int[] {335, 336, 512, 65536, Integer.MAX_VALUE - 1, Integer.MAX_VALUE}) {
            due("no tree " + place, x.tree(place), ExactWires.NONE);
        }
        due("the first one again", x.tree(0), 0b111111);
        ExactWires path = of("iiiiiii", 0, 1, 60, 1, 2, 60, 2, 3, 60, 3, 4, 60, 4, 5, 60, 5, 6, 60);
        due("a count beyond an int", path.trees(), 46656000000L);
        due("a count beyond an int, anew", path.treesAnew(), 46656000000L);
        due("its only tree", path.tree(0), 63);
        due("no other one", path.tree(1), ExactWires.NONE);
    }

    // ---- The greatest fractions: nothing wraps around

    private static void greatestFractions() {
        ExactWires x = of("eeiiiii", 0, 2, 59, 1, 2, 58, 0, 3, 57, 1, 3, 56, 0, 4, 55, 1, 4, 53,
                0, 5, 51, 1, 5, 49, 0, 6, 47, 1, 6, 43, 0, 1, 60, 1, 0, 60);
        x.value(0, 99);
        x.value(1, -99);
        // Each inner node brings its two wires' sum into the rest, and their product by it into the answer.
        long rest = 117L * 113 * 108 * 100 * 90;
        due("the rest", x.rest(), rest);
        long answer = 120 * rest + rest / 117 * (59 * 58) + rest / 113 * (57 * 56) + rest / 108 * (55 * 53)
                + rest / 100 * (51 * 49) + rest / 90 * (47 * 43);
        due("the trees", x.trees(), answer);
        due("the trees, anew", x.treesAnew(), answer);
        dueSame("the answer", part -> x.answer(0, 1, part), answer, rest);
        dueSame("the current", part -> x.current(0, part), 198 * answer, rest);
        dueSame("the current at the other edge", part -> x.current(1, part), -198 * answer, rest);
        dueSame("the power", x::power, 198 * 198 * answer, rest);
        dueFraction("a potential, in lowest terms", part -> x.potential(2, part), 11, 13);
    }

    /** Holds a fraction against one that need not be in lowest terms. */
    private static void dueSame(String what, Part part, long upper, long lower) {
        long divisor = lower;
        for (long left = upper < 0 ? -upper : upper; left != 0;) {
            long next = divisor % left;
            divisor = left;
            left = next;
        }
        dueFraction(what, part, upper / divisor, lower / divisor);
    }

    // ---- "erased ...: at most 9 digits, none of them 0"

    private static void walks() {
        ExactWires x = of("iiiiiii", 0, 1, 1, 1, 2, 1, 2, 3, 1, 3, 4, 1, 4, 5, 1, 5, 6, 1, 6, 6, 1);
        int[][] walks = {
            {1, 1}, {7, 7}, {67, 67}, {77, 7}, {777, 7}, {7777, 7}, {77777, 7}, {777777, 7}, {7777777, 7},
            {77777777, 7}, {777777777, 7}, {1234567, 1234567}, {12345677, 1234567}, {123456777, 1234567},
            {765432123, 76543}, {121234567, 1234567}, {123432123, 123}, {767676767, 7}, {676767676, 6},
            {76767676, 76}, {123454321, 1}, {234543456, 23456},
        };
        for (int[] walk : walks) {
            due("erased(" + walk[0] + ")", x.erased(walk[0]), walk[1]);
        }
        for (int apart : new int[] {66, 11, 13, 17, 1235, 123456763, 777777775, 557777777}) {
            due("erased(" + apart + "), not joined", x.erased(apart), ExactWires.NONE);
        }
        for (int no : new int[] {8, 9, 18, 91, 128, 777777778, 977777777, 80, 1777777778, 2147483647}) {
            dueThrow("erased(" + no + "), no such node", INDEX, () -> x.erased(no));
        }
        for (int no : new int[] {0, -1, -8, -18, Integer.MIN_VALUE, 10, 70, 707, 777777770, 700000000,
                1111111111, 1234567654, 2101010101, 2147432147, 1000000000}) {
            dueThrow("erased(" + no + "), not written so", ARGUMENT, () -> x.erased(no));
        }
        ExactWires one = of("ei", 0, 1, 1);
        one.move(SPIKE, 1);
        for (int no : new int[] {2111111111, 2000000000, 2, 12, 21}) {
            dueThrow("erased(" + no + ") of a node that went", INDEX, () -> one.erased(no));
        }
        due("a node without wires", one.erased(1), 1);
        due("a node without wires, twice", one.erased(11), ExactWires.NONE);
        dueThrow("without nodes", INDEX, () -> new ExactWires().erased(1));
        dueThrow("without nodes, 0", ARGUMENT, () -> new ExactWires().erased(0));
        dueThrow("without nodes, below 0", ARGUMENT, () -> new ExactWires().erased(-1));
    }

    // ---- "starred: if there are just three edges, all of whose answers are above 0"

    private static void starredAgain() {
        for (String nodes : new String[] {"e", "ee", "eeee", "eeeeeee"}) {
            ExactWires x = of(nodes);
            for (int one = 0; one < nodes.length(); one++) {
                for (int other = one + 1; other < nodes.length() && x.wires() < 2048; other++) {
                    x.wire(one, other, 5);
                }
            }
            dueFraction("of " + nodes, part -> x.starred(0, part), 0, 0);
        }
        for (int middle = 0; middle < 3; middle++) {
            ExactWires path = of("eee", middle, (middle + 1) % 3, 5, (middle + 2) % 3, middle, 7);
            for (int edge = 0; edge < 3; edge++) {
                int each = edge;
                dueFraction("an answer of 0, of edge " + edge, part -> path.starred(each, part), 0, 0);
            }
            path.wire((middle + 1) % 3, (middle + 2) % 3, 1);
            int at = middle;
            dueFraction("all answers above 0", part -> path.starred(at, part), 47, 1);
        }
        ExactWires least = of("eee", 0, 1, 1, 1, 2, 1, 2, 0, 1);
        dueFraction("answers of 1", part -> least.starred(2, part), 3, 1);
        ExactWires last = of("iiiieee", 4, 5, 60, 5, 6, 60, 6, 4, 60, 0, 4, 1, 1, 4, 1, 2, 4, 1, 3, 4, 1);
        dueFraction("the last three nodes", part -> last.starred(6, part), 180, 1);
        last.move(SPIKE, 0);
        dueFraction("without the lowest node", part -> last.starred(4, part), 180, 1);
        dueFraction("no wires", part -> of("eee").starred(0, part), 0, 0);
    }

    // ---- "keeps: ... as at the mark, for the edges that were there then; true without a mark"

    private static void marks() {
        ExactWires x = of("ee", 0, 1, 5);
        x.wire(0, 1, 1);
        due("true without a mark, whatever comes", x.keeps(), true);
        x.mark();
        x.node(true);
        x.wire(2, 0, 1);
        due("an edge that was not there then", x.keeps(), true);
        x.wire(2, 1, 1);
        due("its wires to edges that were", x.keeps(), true);
        x.mark();
        x.wire(2, 2, 1);
        due("a ring", x.keeps(), true);
        x.wire(2, 1, 1);
        due("the last pair of edges", x.keeps(), false);
        x.mark();
        due("the later mark holds", x.keeps(), true);
        for (int one = 0; one < 6; one++) {
            for (int other = one + 1; other < 7; other++) {
                ExactWires seven = of("eeeeeee", 0, 1, 1);
                seven.mark();
                due("seven edges", seven.keeps(), true);
                seven.wire(one, other, 1);
                due("seven edges, another answer of " + one + " and " + other, seven.keeps(), false);
            }
        }
        ExactWires early = new ExactWires();
        early.mark();
        early.node(true);
        early.node(true);
        early.wire(0, 1, 1);
        due("a mark without nodes", early.keeps(), true);
        ExactWires only = of("e");
        only.mark();
        only.node(true);
        only.wire(0, 1, 1);
        due("a mark of one edge", only.keeps(), true);
        ExactWires zero = of("eei");
        zero.mark();
        due("0 by 0 as at the mark", zero.keeps(), true);
        zero.wire(0, 2, 1);
        due("0 by 1 is another answer", zero.keeps(), false);
    }

    public static void main(String[] args) {
        fiveHundredTwelveCalls();
        sevenNodesEver();
        sevenNodesByStar();
        twelveWiresThere();
        twentyWiresEver();
        twentyWiresBySeries();
        twentyWiresByTriangleAndStar();
        conductances();
        goneNumbers();
        forests();
        theRest();
        fractions();
        answers();
        values();
        dividedByNone();
        distances();
        loops();
        parallels();
        spikes();
        series();
        triangles();
        stars();
        lowestOfStars();
        forgotten();
        undoneAll();
        whatUndoingLeaves();
        simplified();
        simplifiedInOrder();
        treesAgain();
        treesInOrder();
        greatestFractions();
        walks();
        starredAgain();
        marks();
        end("all boundaries hold");
    }
}
