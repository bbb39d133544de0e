import java.math.BigInteger;

/** Each promise of the document: ordinary calls, the edges it names, and wrong arguments. */
public final class PromisesTest extends Due {
    private static void promise1() {
        ExactWires x = new ExactWires();
        due("1 nodes", x.nodes(), 0);
        due("1 wires", x.wires(), 0);
        due("1 trees", x.trees(), 0);
        due("1 treesAnew", x.treesAnew(), 0);
        due("1 rest", x.rest(), 1);
        due("1 tree", x.tree(0), ExactWires.NONE);
        due("1 power, upper", x.power(false), 0);
        due("1 power, lower", x.power(true), 1);
        due("1 keeps", x.keeps(), true);
        due("1 simplify", x.simplify(), 0);
        dueThrow("1 undo", STATE, x::undo);
        dueThrow("1 erased", INDEX, () -> x.erased(1));
        ExactWires other = of("e");
        due("1 one object does not show in another", x.nodes() + other.nodes(), 1);
    }

    private static void promise2() {
        ExactWires x = new ExactWires();
        for (int node = 0; node < 7; node++) {
            due("2 number", x.node(node % 2 == 0), node);
        }
        dueThrow("2 an eighth node", STATE, () -> x.node(true));
        dueThrow("2 an eighth node, inner", STATE, () -> x.node(false));
        due("2 nodes behind the throw", x.nodes(), 127);
        dueThrow("2 an inner node is no edge", INDEX, () -> x.value(1, 0));
        x.value(6, 0);

        ExactWires gone = of("ei", 0, 1, 5);
        gone.move(ExactWires.SPIKE, 1);
        due("2 a number that went is not used again", gone.node(true), 2);
        due("2 its nodes", gone.nodes(), 5);
        for (int node = 3; node < 7; node++) {
            gone.node(true);
        }
        dueThrow("2 a node that went counts", STATE, () -> gone.node(false));

        ExactWires undone = of("eee", 0, 1, 3, 1, 2, 3, 2, 0, 3);
        undone.move(ExactWires.STAR, 0);
        undone.undo();
        due("2 a number that undoing took back is used again", undone.node(true), 3);
        due("2 the undone inner node is an edge now", undone.potential(3, true), 1);
        dueAnswer("2 a node by itself", undone, 0, 3, 0, 1);
    }

    private static void promise3() {
        ExactWires x = of("eei");
        due("3 first", x.wire(0, 1, 1), 0);
        due("3 second", x.wire(1, 0, 60), 1);
        due("3 a ring", x.wire(2, 2, 7), 2);
        dueWire("3", x, 1, 1, 0, 60);
        for (int no : NO_NUMBERS) {
            dueThrow("3 no first node", INDEX, () -> x.wire(no, 0, 1));
            dueThrow("3 no second node", INDEX, () -> x.wire(0, no, 1));
        }
        dueThrow("3 a node that is not yet", INDEX, () -> x.wire(0, 3, 0));
        for (int no : new int[] {0, 61, -1, Integer.MIN_VALUE, Integer.MAX_VALUE}) {
            dueThrow("3 no conductance", ARGUMENT, () -> x.wire(0, 1, no));
        }
        due("3 wires behind the throws", x.wires(), 7);
        for (int wire = 3; wire < 12; wire++) {
            due("3 number", x.wire(0, 0, 1), wire);
        }
        dueThrow("3 a thirteenth there", STATE, () -> x.wire(0, 0, 1));
        dueThrow("3 an index ahead of the state", INDEX, () -> x.wire(0, 9, 0));
        dueThrow("3 an argument ahead of the state", ARGUMENT, () -> x.wire(0, 0, 0));
        x.move(ExactWires.LOOP, 3);
        due("3 room again", x.wire(0, 1, 2), 12);
        for (int wire = 13; wire < 20; wire++) {
            x.move(ExactWires.LOOP, wire - 9);
            due("3 number", x.wire(1, 1, 1), wire);
        }
        x.simplify();
        dueThrow("3 a twenty-first ever", STATE, () -> x.wire(0, 1, 1));
        due("2 a node, as no wire can be added any more", x.node(true), 3);

        ExactWires gone = of("ei", 0, 1, 5);
        gone.move(ExactWires.SPIKE, 1);
        dueThrow("3 a node that went", INDEX, () -> gone.wire(0, 1, 1));
        dueThrow("3 a node that went, first", INDEX, () -> gone.wire(1, 0, 1));
    }

    private static void promise4() {
        ExactWires x = of("eee", 0, 2, 17, 2, 1, 4);
        dueWire("4", x, 0, 0, 2, 17);
        dueWire("4", x, 1, 2, 1, 4);
        for (int no : new int[] {-1, 2, 12, 20, 32, 33, Integer.MIN_VALUE, Integer.MAX_VALUE}) {
            dueThrow("4 no wire", INDEX, () -> x.wireIs(no, 0));
            dueThrow("4 no wire, nor what", INDEX, () -> x.wireIs(no, 3));
        }
        for (int no : new int[] {-1, 3, Integer.MIN_VALUE, Integer.MAX_VALUE}) {
            dueThrow("4 no what", ARGUMENT, () -> x.wireIs(0, no));
        }
        x.wire(1, 1, 1);
        x.move(ExactWires.LOOP, 2);
        dueThrow("4 a wire that went", INDEX, () -> x.wireIs(2, 0));
    }

    private static void promises5And6() {
        ExactWires x = of("eiei", 0, 1, 2, 1, 2, 2, 2, 3, 2);
        due("5 nodes", x.nodes(), 15);
        due("6 wires", x.wires(), 7);
        x.move(ExactWires.SPIKE, 3);
        due("5 nodes behind SPIKE", x.nodes(), 7);
        due("6 wires behind SPIKE", x.wires(), 3);
        x.move(ExactWires.SERIES, 1);
        due("5 nodes behind SERIES", x.nodes(), 5);
        due("6 wires behind SERIES", x.wires(), 8);
    }

    private static void promises7To9() {
        ExactWires x = of("eee", 0, 1, 2, 1, 2, 3, 2, 0, 5, 0, 1, 7, 1, 1, 60);
        due("7 trees", x.trees(), (2 + 7) * 3 + (2 + 7) * 5 + 3 * 5);
        due("8 trees anew", x.treesAnew(), 87);
        int[] sets = {3, 5, 6, 10, 12};
        for (int place = 0; place < sets.length; place++) {
            due("9 tree " + place, x.tree(place), sets[place]);
        }
        due("9 no more", x.tree(5), ExactWires.NONE);
        due("9 none so far", x.tree(Integer.MAX_VALUE), ExactWires.NONE);
        dueThrow("9 below 0", ARGUMENT, () -> x.tree(-1));
        dueThrow("9 far below 0", ARGUMENT, () -> x.tree(Integer.MIN_VALUE));

        due("9 asked first of all", of("ee", 0, 1, 1, 1, 0, 1).tree(1), 2);
        ExactWires asked = of("eei", 0, 1, 1, 1, 2, 1);
        due("9 behind another count: that count", asked.rest(), 1);
        due("9 behind another count", asked.tree(0), 3);

        ExactWires one = of("i", 0, 0, 3);
        due("7 one node", one.trees(), 1);
        due("8 one node", one.treesAnew(), 1);
        due("9 one node", one.tree(0), 0);
        due("9 one node, no more", one.tree(1), ExactWires.NONE);

        ExactWires two = of("ei", 1, 1, 3);
        due("7 two nodes apart", two.trees(), 0);
        due("8 two nodes apart", two.treesAnew(), 0);
        due("9 two nodes apart", two.tree(0), ExactWires.NONE);

        // A ring of all nodes, and wires to the next but one, all of 60: trees are near their greatest.
        ExactWires most = of("iiiiiii");
        for (int wire = 0; wire < 12; wire++) {
            most.wire(wire % 7, (wire + 1 + wire / 7) % 7, 60);
        }
        due("7 and 8 agree at the greatest", most.trees(), most.treesAnew());
        due("7 is of six wires", most.trees() % 46656000000L, 0);

        ExactWires gone = of("iee", 0, 1, 4, 1, 2, 9);
        gone.move(ExactWires.SPIKE, 0);
        due("7 without its lowest node", gone.trees(), 9);
        due("8 without its lowest node", gone.treesAnew(), 9);
        due("9 without its lowest node", gone.tree(0), 2);
    }

    private static void promise10() {
        due("10 without nodes", new ExactWires().rest(), 1);
        due("10 without edges", of("i").rest(), 0);
        due("10 edges alone", of("ee", 0, 1, 9).rest(), 1);
        due("10 one inner node", of("eei", 0, 2, 4, 1, 2, 9, 0, 1, 60).rest(), 13);
        due("10 an inner node joined with none", of("eei", 0, 1, 9).rest(), 0);
        // Forests of two wires of a path of inner nodes: 2*3 + 2*5 + 3*5.
        due("10 two inner nodes", of("eeii", 0, 2, 2, 2, 3, 3, 3, 1, 5).rest(), 31);
    }

    private static void promise11() {
        ExactWires x = of("eeei", 0, 3, 2, 1, 3, 3, 2, 3, 1, 0, 1, 4);
        dueAnswer("11 through an inner node and straight", x, 0, 1, 5, 1);
        dueAnswer("11 through an inner node", x, 1, 2, 1, 2);
        dueAnswer("11 lowest terms", x, 0, 2, 1, 3);
        for (int no : NO_NUMBERS) {
            dueThrow("11 no edge", INDEX, () -> x.answer(no, 0, true));
            dueThrow("11 no other edge", INDEX, () -> x.answer(0, no, false));
        }
        dueThrow("11 an inner node", INDEX, () -> x.answer(3, 0, true));
        dueThrow("11 an inner node, other", INDEX, () -> x.answer(0, 3, true));
        dueThrow("11 the same inner node", INDEX, () -> x.answer(3, 3, true));
        dueThrow("11 the same edge", ARGUMENT, () -> x.answer(1, 1, true));
        dueAnswer("11 apart", of("ee"), 0, 1, 0, 1);
        dueAnswer("11 the rest is 0", of("eei", 0, 1, 5), 0, 1, 0, 0);
        dueAnswer("11 not through a third edge", of("eee", 0, 1, 5, 1, 2, 5), 0, 2, 0, 1);
    }

    private static void promise12() {
        ExactWires x = of("ei", 0, 1, 2);
        for (int value : new int[] {-99, 0, 99}) {
            x.value(0, value);
            due("12 value", x.potential(0, false), value);
        }
        for (int no : new int[] {-100, 100, Integer.MIN_VALUE, Integer.MAX_VALUE}) {
            dueThrow("12 no value", ARGUMENT, () -> x.value(0, no));
        }
        due("12 value behind the throws", x.potential(0, false), 99);
        for (int no : NO_NUMBERS) {
            dueThrow("12 no edge", INDEX, () -> x.value(no, 0));
            dueThrow("12 no edge, nor value", INDEX, () -> x.value(no, 100));
        }
        dueThrow("12 an inner node", INDEX, () -> x.value(1, 100));
        x.move(ExactWires.SPIKE, 1);
        x.undo();
        due("12 undoing keeps values", x.potential(0, false), 99);
        ExactWires kept = of("ei", 0, 1, 2);
        kept.move(ExactWires.SPIKE, 1);
        kept.value(0, -7);
        due("12 telling a value forgets no moves", kept.undo(), 0);
        due("12 undoing takes no value back", kept.potential(0, false), -7);
    }

    private static void promise13() {
        ExactWires x = of("eeiii", 0, 2, 1, 2, 1, 3, 2, 3, 5, 3, 4, 2);
        due("13 an edge at first", x.potential(0, false), 0);
        due("13 an edge at first, lower", x.potential(0, true), 1);
        due("13 0 is 0 by 1", x.potential(2, true), 1);
        x.value(0, 7);
        x.value(1, -10);
        due("13 inner, upper", x.potential(2, false), -23);
        due("13 inner, lower", x.potential(2, true), 4);
        due("13 behind it, upper", x.potential(4, false), -23);
        due("13 behind it, lower", x.potential(4, true), 4);
        for (int no : NO_NUMBERS) {
            dueThrow("13 no node", INDEX, () -> x.potential(no, true));
        }
        dueThrow("13 not yet", INDEX, () -> x.potential(5, true));
        x.node(false);
        due("13 rest 0: an edge", x.potential(1, false), -10);
        due("13 rest 0: an edge, lower", x.potential(1, true), 1);
        due("13 rest 0: inner, upper", x.potential(2, false), 0);
        due("13 rest 0: inner, lower", x.potential(2, true), 0);
        x.wire(5, 4, 1);
        x.move(ExactWires.SPIKE, 5);
        dueThrow("13 not any more", INDEX, () -> x.potential(5, true));
    }

    private static void promises14And15() {
        ExactWires x = of("eeei", 0, 3, 2, 1, 3, 3, 2, 3, 1, 0, 1, 4);
        due("14 at first, upper", x.current(0, false), 0);
        due("14 at first, lower", x.current(0, true), 1);
        x.value(0, 3);
        x.value(1, -1);
        x.value(2, 5);
        // Answers: 5 of 0 and 1, 1/3 of 0 and 2, 1/2 of 1 and 2.
        due("14 upper", x.current(0, false), 58);
        due("14 lower", x.current(0, true), 3);
        due("14 below 0, upper", x.current(1, false), -23);
        due("14 below 0, lower", x.current(1, true), 1);
        due("14 third, upper", x.current(2, false), 11);
        due("14 third, lower", x.current(2, true), 3);
        due("15 upper", x.power(false), 298);
        due("15 lower", x.power(true), 3);
        for (int no : NO_NUMBERS) {
            dueThrow("14 no edge", INDEX, () -> x.current(no, true));
        }
        dueThrow("14 an inner node", INDEX, () -> x.current(3, true));
        ExactWires lone = of("ei", 0, 1, 4);
        lone.value(0, 50);
        due("14 one edge alone, upper", lone.current(0, false), 0);
        due("14 one edge alone, lower", lone.current(0, true), 1);
        due("15 one edge alone, lower", lone.power(true), 1);
        lone.node(false);
        due("14 rest 0, lower", lone.current(0, true), 0);
        due("14 rest 0, upper", lone.current(0, false), 0);
        due("15 rest 0, lower", lone.power(true), 0);
        due("15 rest 0, upper", lone.power(false), 0);
        due("15 inner nodes alone", of("i").power(true), 0);

        ExactWires most = of("eeiiiii");
        for (int inner = 2; inner < 7; inner++) {
            most.wire(0, inner, 60);
            most.wire(1, inner, 60);
        }
        most.wire(0, 1, 60);
        most.wire(1, 0, 60);
        most.value(0, 99);
        most.value(1, -99);
        due("15 the greatest values, upper", most.power(false), 270L * 198 * 198);
        due("15 the greatest values, lower", most.power(true), 1);
    }

    private static void promise16() {
        ExactWires x = of("eii", 0, 1, 4, 1, 2, 6, 0, 2, 6);
        due("16 upper", x.distance(0, 1, false), 1);
        due("16 lower", x.distance(0, 1, true), 7);
        due("16 inner, upper", x.distance(1, 2, false), 5);
        due("16 inner, lower", x.distance(1, 2, true), 42);
        due("16 to itself, upper", x.distance(2, 2, false), 0);
        due("16 to itself, lower", x.distance(2, 2, true), 1);
        for (int no : NO_NUMBERS) {
            dueThrow("16 no node", INDEX, () -> x.distance(no, 0, true));
            dueThrow("16 no other node", INDEX, () -> x.distance(0, no, true));
            dueThrow("16 the same, that is none", INDEX, () -> x.distance(no, no, true));
        }
        x.node(true);
        due("16 no trees, upper", x.distance(0, 1, false), 0);
        due("16 no trees, lower", x.distance(0, 1, true), 0);
        due("16 no trees, to itself", x.distance(1, 1, true), 1);
    }

    private static void promise17() {
        ExactWires x = of("eiie", 0, 1, 4, 1, 2, 6, 2, 3, 3);
        due("17 upper", x.chance(1, 0, 3, false), 2);
        due("17 lower", x.chance(1, 0, 3, true), 3);
        due("17 the second, upper", x.chance(1, 3, 0, false), 1);
        due("17 the second, lower", x.chance(1, 3, 0, true), 3);
        due("17 begins at the first", x.chance(0, 0, 3, false), 1);
        due("17 begins at the first, lower", x.chance(0, 0, 3, true), 1);
        due("17 begins at the second", x.chance(3, 0, 3, false), 0);
        due("17 begins at the second, lower", x.chance(3, 0, 3, true), 1);
        for (int no : NO_NUMBERS) {
            dueThrow("17 no first", INDEX, () -> x.chance(0, no, 1, true));
            dueThrow("17 no second", INDEX, () -> x.chance(0, 1, no, true));
            dueThrow("17 no from", INDEX, () -> x.chance(no, 1, 1, true));
            dueThrow("17 the same, that are none", INDEX, () -> x.chance(0, no, no, true));
        }
        dueThrow("17 the same", ARGUMENT, () -> x.chance(0, 1, 1, true));
        due("17 first and second are apart", of("iii", 0, 2, 5).chance(2, 0, 1, false), 1);
        ExactWires three = of("iii");
        due("17 no forests of two trees", three.chance(0, 0, 1, false), 0);
        due("17 no forests of two trees, lower", three.chance(0, 0, 1, true), 0);
    }

    private static void promise18() {
        ExactWires x = of("eiiee", 0, 1, 1, 1, 2, 1, 2, 0, 1, 2, 3, 1, 3, 3, 1);
        int[][] walks = {
            {1, 1}, {12, 12}, {121, 1}, {1231, 1}, {12312, 12}, {123123123, 123}, {44, 4}, {12344, 1234},
            {12321, 1}, {12343, 123}, {5, 5}, {131, 1}, {443, 43}, {213243, -1}, {213434321, 21},
        };
        for (int[] walk : walks) {
            due("18 erased(" + walk[0] + ")", x.erased(walk[0]), walk[1]);
        }
        for (int apart : new int[] {14, 11, 15, 1214, 151, 1241, 12314}) {
            due("18 erased(" + apart + "), not joined", x.erased(apart), ExactWires.NONE);
        }
        for (int no : new int[] {6, 16, 60, 1234567, 1111111116, Integer.MAX_VALUE, 1000000009}) {
            dueThrow("18 erased(" + no + "), no such node", INDEX, () -> x.erased(no));
        }
        for (int no : new int[] {0, -1, -6, Integer.MIN_VALUE, 10, 102, 1111111111, 1000000000, 1234512345}) {
            dueThrow("18 erased(" + no + "), not written so", ARGUMENT, () -> x.erased(no));
        }
        ExactWires gone = of("ei", 0, 1, 5, 0, 0, 1);
        due("18 there", gone.erased(121), 1);
        gone.move(ExactWires.SPIKE, 1);
        dueThrow("18 gone", INDEX, () -> gone.erased(121));
        due("18 a ring there", gone.erased(11), 1);
        gone.undo();
        gone.move(ExactWires.LOOP, 1);
        due("18 a ring gone", gone.erased(11), ExactWires.NONE);
    }

    private static void promise19() {
        ExactWires x = of("eeei", 0, 3, 2, 1, 3, 3, 2, 3, 1);
        due("19 first", x.starred(0, false), 2);
        due("19 second", x.starred(1, false), 3);
        due("19 third, lower", x.starred(2, true), 1);
        x.wire(1, 2, 5);
        // Answers: 1 of 0 and 1, 1/3 of 0 and 2, 11/2 of 1 and 2: the products add up to 23/3.
        due("19 upper", x.starred(0, false), 46);
        due("19 lower", x.starred(0, true), 33);
        due("19 upper of the second", x.starred(1, false), 23);
        due("19 lower of the second", x.starred(1, true), 1);
        for (int no : NO_NUMBERS) {
            dueThrow("19 no edge", INDEX, () -> x.starred(no, true));
        }
        dueThrow("19 an inner node", INDEX, () -> x.starred(3, true));
        x.node(true);
        due("19 four edges, upper", x.starred(0, false), 0);
        due("19 four edges, lower", x.starred(0, true), 0);
        due("19 two edges", of("ee", 0, 1, 1).starred(0, true), 0);
        ExactWires path = of("eee", 0, 1, 1, 1, 2, 1);
        for (int edge = 0; edge < 3; edge++) {
            due("19 an answer of 0, upper", path.starred(edge, false), 0);
            due("19 an answer of 0, lower", path.starred(edge, true), 0);
        }
        due("19 rest 0", of("eeei", 0, 1, 1, 1, 2, 1, 0, 2, 1).starred(0, true), 0);

        // Counts whose products are far beyond a long: the fraction is small again.
        ExactWires great = of("eeeiiii", 0, 3, 59, 1, 3, 53, 2, 4, 47, 0, 4, 43, 1, 5, 41, 2, 5, 37,
                0, 6, 60, 1, 6, 31, 2, 6, 29, 3, 4, 23, 4, 5, 19, 5, 6, 17);
        long[][] stars = starsInFull(great);
        for (int edge = 0; edge < 3; edge++) {
            due("19 great, upper", great.starred(edge, false), stars[edge][0]);
            due("19 great, lower", great.starred(edge, true), stars[edge][1]);
        }
    }

    /** The star of the edges 0 to 2 from their answers, as the document says it. */
    private static long[][] starsInFull(ExactWires x) {
        BigInteger[][] answers = new BigInteger[3][];
        for (int edge = 0; edge < 3; edge++) {
            int one = (edge + 1) % 3;
            int other = (edge + 2) % 3;
            answers[edge] = new BigInteger[] {
                BigInteger.valueOf(x.answer(one, other, false)),
                BigInteger.valueOf(x.answer(one, other, true)),
            };
        }
        long[][] stars = new long[3][2];
        for (int edge = 0; edge < 3; edge++) {
            BigInteger[] a = answers[edge];
            BigInteger[] b = answers[(edge + 1) % 3];
            BigInteger[] c = answers[(edge + 2) % 3];
            BigInteger upper = a[0].multiply(b[0]).multiply(c[1])
                    .add(a[0].multiply(c[0]).multiply(b[1])).add(b[0].multiply(c[0]).multiply(a[1]));
            BigInteger lower = b[1].multiply(c[1]).multiply(a[0]);
            BigInteger divisor = upper.gcd(lower);
            stars[edge][0] = upper.divide(divisor).longValueExact();
            stars[edge][1] = lower.divide(divisor).longValueExact();
        }
        return stars;
    }

    private static void promise20() {
        ExactWires x = of("ei", 0, 1, 2);
        for (int no : new int[] {-1, 6, Integer.MIN_VALUE, Integer.MAX_VALUE}) {
            dueThrow("20 no kind", ARGUMENT, () -> x.move(no, 0));
            dueThrow("20 no kind, nor wire or node", ARGUMENT, () -> x.move(no, 99));
        }
        for (int kind = ExactWires.LOOP; kind <= ExactWires.STAR; kind++) {
            int each = kind;
            for (int no : new int[] {-1, 2, 7, 20, 31, 32, 33, Integer.MIN_VALUE, Integer.MAX_VALUE}) {
                dueThrow("20 no wire or node", INDEX, () -> x.move(each, no));
            }
        }
        for (int kind : new int[] {ExactWires.LOOP, ExactWires.PARALLEL, ExactWires.STAR}) {
            dueThrow("20 a node, but no wire", INDEX, () -> x.move(kind, 1));
        }
        loopMoves();
        parallelMoves();
        spikeMoves();
        seriesMoves();
        triangleMoves();
        starMoves();
    }

    private static void loopMoves() {
        ExactWires x = of("ei", 0, 1, 2, 1, 1, 60);
        dueThrow("20 LOOP of two nodes", STATE, () -> x.move(ExactWires.LOOP, 0));
        x.move(ExactWires.LOOP, 1);
        due("20 LOOP", x.wires(), 1);
        due("20 LOOP keeps the node", x.nodes(), 3);
        dueThrow("20 LOOP again", INDEX, () -> x.move(ExactWires.LOOP, 1));
    }

    private static void parallelMoves() {
        ExactWires x = of("eei", 0, 2, 9, 0, 1, 30, 1, 0, 30, 0, 1, 1, 1, 1, 5, 1, 1, 5);
        dueThrow("20 PARALLEL of rings", STATE, () -> x.move(ExactWires.PARALLEL, 4));
        dueThrow("20 PARALLEL with none", STATE, () -> x.move(ExactWires.PARALLEL, 0));
        x.move(ExactWires.PARALLEL, 2);
        dueWire("20 PARALLEL", x, 2, 1, 0, 60);
        due("20 PARALLEL takes the other away", x.wires(), 0b111101);
        dueThrow("20 PARALLEL above 60", STATE, () -> x.move(ExactWires.PARALLEL, 2));
        dueThrow("20 PARALLEL above 60, other", STATE, () -> x.move(ExactWires.PARALLEL, 3));
        x.undo();
        dueWire("20 PARALLEL undone", x, 2, 1, 0, 30);
        x.move(ExactWires.PARALLEL, 3);
        dueWire("20 PARALLEL with the lowest", x, 3, 0, 1, 31);
        due("20 PARALLEL with the lowest, wires", x.wires(), 0b111101);
        ExactWires full = of("ee", 0, 1, 50, 0, 1, 20, 0, 1, 5);
        dueThrow("20 PARALLEL with the lowest alone", STATE, () -> full.move(ExactWires.PARALLEL, 1));
    }

    private static void spikeMoves() {
        ExactWires x = of("eiieii", 0, 1, 2, 1, 2, 3, 2, 2, 4, 0, 3, 1, 4, 4, 1);
        dueThrow("20 SPIKE of two wires", STATE, () -> x.move(ExactWires.SPIKE, 1));
        dueThrow("20 SPIKE with a ring", STATE, () -> x.move(ExactWires.SPIKE, 2));
        dueThrow("20 SPIKE of an edge", STATE, () -> x.move(ExactWires.SPIKE, 3));
        dueThrow("20 SPIKE of a ring", STATE, () -> x.move(ExactWires.SPIKE, 4));
        dueThrow("20 SPIKE without wires", STATE, () -> x.move(ExactWires.SPIKE, 5));
        x.move(ExactWires.LOOP, 2);
        x.move(ExactWires.SPIKE, 2);
        due("20 SPIKE, nodes", x.nodes(), 0b111011);
        due("20 SPIKE, wires", x.wires(), 0b11001);
    }

    private static void seriesMoves() {
        ExactWires x = of("eieii", 2, 1, 6, 1, 0, 3, 3, 4, 2, 3, 4, 2);
        dueThrow("20 SERIES to one node", STATE, () -> x.move(ExactWires.SERIES, 3));
        dueThrow("20 SERIES of an edge", STATE, () -> x.move(ExactWires.SERIES, 0));
        x.move(ExactWires.SERIES, 1);
        dueWire("20 SERIES, the node of the lower wire first", x, 4, 2, 0, 2);
        due("20 SERIES, nodes", x.nodes(), 0b11101);
        due("20 SERIES, wires", x.wires(), 0b11100);
        ExactWires edge = of("eee", 0, 1, 6, 1, 2, 3);
        dueThrow("20 SERIES at an edge of two wires", STATE, () -> edge.move(ExactWires.SERIES, 1));
        ExactWires part = of("eie", 0, 1, 2, 1, 2, 3);
        dueThrow("20 SERIES not whole", STATE, () -> part.move(ExactWires.SERIES, 1));
        due("20 SERIES not whole, nodes", part.nodes(), 7);
        ExactWires ring = of("eie", 0, 1, 2, 1, 1, 2);
        dueThrow("20 SERIES with a ring", STATE, () -> ring.move(ExactWires.SERIES, 1));
        ExactWires three = of("eieii", 0, 1, 2, 1, 2, 2, 1, 3, 2);
        dueThrow("20 SERIES of three wires", STATE, () -> three.move(ExactWires.SERIES, 1));
    }

    private static void triangleMoves() {
        ExactWires x = of("ieee", 2, 0, 12, 0, 3, 18, 1, 0, 6);
        x.move(ExactWires.TRIANGLE, 0);
        dueWire("20 TRIANGLE, first and second", x, 3, 2, 3, 6);
        dueWire("20 TRIANGLE, first and third", x, 4, 2, 1, 2);
        dueWire("20 TRIANGLE, second and third", x, 5, 3, 1, 3);
        due("20 TRIANGLE, nodes", x.nodes(), 14);
        due("20 TRIANGLE, wires", x.wires(), 0b111000);
        ExactWires part = of("ieee", 2, 0, 12, 0, 3, 18, 1, 0, 7);
        dueThrow("20 TRIANGLE not whole", STATE, () -> part.move(ExactWires.TRIANGLE, 0));
        ExactWires edge = of("eeee", 2, 0, 12, 0, 3, 18, 1, 0, 6);
        dueThrow("20 TRIANGLE of an edge", STATE, () -> edge.move(ExactWires.TRIANGLE, 0));
        ExactWires twice = of("ieee", 2, 0, 6, 0, 2, 6, 1, 0, 6);
        dueThrow("20 TRIANGLE to a node twice", STATE, () -> twice.move(ExactWires.TRIANGLE, 0));
        ExactWires ring = of("ieee", 2, 0, 6, 0, 0, 6, 1, 0, 6);
        dueThrow("20 TRIANGLE with a ring", STATE, () -> ring.move(ExactWires.TRIANGLE, 0));
        ExactWires used = of("ieee", 2, 0, 6, 0, 3, 6, 1, 0, 6);
        useUp(used, 1, 18);
        dueThrow("20 TRIANGLE, too many wires ever", STATE, () -> used.move(ExactWires.TRIANGLE, 0));
        due("20 TRIANGLE, too many wires ever: nothing changed", used.wires(), 7);
        ExactWires last = of("ieee", 2, 0, 6, 0, 3, 6, 1, 0, 6);
        useUp(last, 1, 17);
        last.move(ExactWires.TRIANGLE, 0);
        due("20 TRIANGLE, the last wires", last.wires(), 0b111 << 17);
    }

    private static void starMoves() {
        ExactWires x = of("eeee", 0, 3, 5, 2, 0, 2, 0, 1, 6, 1, 2, 3, 2, 1, 9);
        x.move(ExactWires.STAR, 2);
        dueWire("20 STAR, of the first node", x, 5, 0, 4, 12);
        dueWire("20 STAR, of the second node", x, 6, 1, 4, 18);
        dueWire("20 STAR, of the third node", x, 7, 2, 4, 6);
        due("20 STAR, nodes", x.nodes(), 31);
        due("20 STAR, wires: the lowest third one went", x.wires(), 0b11110001);
        dueThrow("20 STAR adds an inner node", INDEX, () -> x.value(4, 0));

        ExactWires turned = of("eee", 2, 1, 3, 1, 0, 6, 0, 2, 2);
        turned.move(ExactWires.STAR, 1);
        dueWire("20 STAR of a wire from 1 to 0, its first node", turned, 3, 1, 3, 18);
        dueWire("20 STAR of a wire from 1 to 0, its second node", turned, 4, 0, 3, 12);
        dueWire("20 STAR of a wire from 1 to 0, the third node", turned, 5, 2, 3, 6);

        ExactWires lowest = of("eeee", 0, 3, 5, 2, 0, 2, 0, 1, 6, 1, 2, 3, 3, 1, 1);
        dueThrow("20 STAR with the lowest second one alone", STATE, () -> lowest.move(ExactWires.STAR, 2));
        ExactWires third = of("eee", 0, 1, 6, 0, 2, 2, 1, 2, 5, 1, 2, 3);
        dueThrow("20 STAR with the lowest third one alone", STATE, () -> third.move(ExactWires.STAR, 0));
        due("20 STAR not possible, nodes", third.nodes(), 7);
        due("20 STAR not possible, wires", third.wires(), 15);
        due("20 STAR not possible, the next wire", third.wire(0, 0, 1), 4);

        ExactWires no = of("eee", 0, 1, 1, 0, 1, 1, 1, 0, 1, 0, 0, 1, 1, 1, 1, 1, 2, 1);
        for (int wire = 0; wire < 6; wire++) {
            int each = wire;
            dueThrow("20 STAR without a triangle", STATE, () -> no.move(ExactWires.STAR, each));
        }
        ExactWires great = of("eee", 0, 1, 60, 1, 2, 60, 2, 0, 60);
        dueThrow("20 STAR above 60", STATE, () -> great.move(ExactWires.STAR, 0));

        ExactWires seven = of("eeeeeee", 0, 1, 1, 1, 2, 1, 2, 0, 1);
        dueThrow("20 STAR with seven nodes", STATE, () -> seven.move(ExactWires.STAR, 0));
        ExactWires six = of("eeeeee", 0, 1, 1, 1, 2, 1, 2, 0, 1);
        six.move(ExactWires.STAR, 0);
        due("20 STAR with six nodes", six.nodes(), 127);

        ExactWires used = of("eee", 0, 1, 1, 1, 2, 1, 2, 0, 1);
        useUp(used, 1, 17);
        used.move(ExactWires.STAR, 0);
        due("20 STAR, the last wires", used.wires(), 0b111 << 17);
        used.undo();
        used.wire(1, 1, 1);
        dueThrow("20 STAR, too many wires ever", STATE, () -> used.move(ExactWires.STAR, 0));

        ExactWires full = of("eee", 0, 1, 1, 1, 2, 1, 2, 0, 1);
        for (int wire = 3; wire < 12; wire++) {
            full.wire(1, 1, 1);
        }
        full.move(ExactWires.STAR, 0);
        due("20 STAR with twelve wires there", full.wires(), 0b111111111111000);
    }

    private static void promise21() {
        ExactWires x = of("eeee", 0, 1, 6, 1, 2, 3, 2, 0, 2, 0, 1, 4, 3, 3, 7);
        dueThrow("21 none so far", STATE, x::undo);
        x.move(ExactWires.STAR, 0);
        x.move(ExactWires.TRIANGLE, 4);
        x.move(ExactWires.PARALLEL, 3);
        x.move(ExactWires.LOOP, 4);
        due("21 wires ahead of undoing", x.wires(), 0b11000001000);
        due("21 LOOP", x.undo(), 3);
        due("21 wires behind LOOP", x.wires(), 0b11000011000);
        due("21 PARALLEL", x.undo(), 2);
        dueWire("21 PARALLEL", x, 3, 0, 1, 4);
        dueWire("21 PARALLEL", x, 8, 0, 1, 6);
        due("21 TRIANGLE", x.undo(), 1);
        due("21 nodes behind TRIANGLE", x.nodes(), 31);
        dueWire("21 TRIANGLE", x, 6, 1, 4, 18);
        x.move(ExactWires.TRIANGLE, 4);
        dueWire("21 the same number again", x, 9, 0, 2, 2);
        due("21 again", x.undo(), 1);
        dueThrow("21 a move that fails", STATE, () -> x.move(ExactWires.LOOP, 5));
        dueThrow("21 a wire that fails", ARGUMENT, () -> x.wire(0, 1, 0));
        due("21 STAR", x.undo(), 0);
        due("21 nodes at last", x.nodes(), 15);
        due("21 wires at last", x.wires(), 31);
        dueWire("21 at last", x, 0, 0, 1, 6);
        dueWire("21 at last", x, 2, 2, 0, 2);
        dueThrow("21 none any more", STATE, x::undo);
        due("21 the next number", x.wire(0, 2, 9), 5);

        x.move(ExactWires.LOOP, 4);
        x.node(true);
        dueThrow("21 a node forgets moves", STATE, x::undo);
        due("21 what was forgotten stays", x.wires(), 0b101111);
        x.move(ExactWires.PARALLEL, 0);
        x.wire(4, 4, 1);
        dueThrow("21 a wire forgets moves", STATE, x::undo);
        due("21 what was forgotten stays, conductance", x.wireIs(0, 2), 10);

        ExactWires series = of("eie", 0, 1, 3, 1, 2, 6);
        series.move(ExactWires.SERIES, 1);
        due("21 SERIES", series.undo(), 0);
        dueWire("21 SERIES", series, 0, 0, 1, 3);
        dueWire("21 SERIES", series, 1, 1, 2, 6);
        due("21 SERIES, nodes", series.nodes(), 7);
        due("21 SERIES, answers", series.answer(0, 2, false), 2);
    }

    private static void numbersUndone() {
        ExactWires x = of("eeei", 0, 1, 3, 1, 2, 3, 2, 0, 3);
        x.move(ExactWires.STAR, 0);
        x.move(ExactWires.TRIANGLE, 4);
        x.move(ExactWires.STAR, 6);
        x.move(ExactWires.TRIANGLE, 5);
        x.move(ExactWires.STAR, 12);
        dueThrow("21 too many wires for one more", STATE, () -> x.move(ExactWires.TRIANGLE, 6));
        for (int left = 4; left >= 0; left--) {
            due("21 stars and triangles in turn", x.undo(), left);
        }
        due("21 stars and triangles, wires", x.wires(), 7);
        due("21 stars and triangles, nodes", x.nodes(), 15);
        due("21 stars and triangles, next node", x.node(false), 4);
        due("21 stars and triangles, next wire", x.wire(0, 0, 1), 3);
    }

    /** A star and a triangle of twelve wires that are there, then one wire less by each move. */
    private static void longestUndo() {
        ExactWires x = of("eii", 0, 1, 6, 1, 2, 6, 2, 0, 6);
        for (int wire = 3; wire < 12; wire++) {
            x.wire(0, 0, 1);
        }
        x.move(ExactWires.STAR, 0);
        x.move(ExactWires.TRIANGLE, 3);
        due("21 the longest, simplified", x.simplify(), 12);
        due("21 the longest, no wires", x.wires(), 0);
        due("21 the longest, one node", x.nodes(), 1);
        for (int left = 13; left >= 0; left--) {
            due("21 the longest", x.undo(), left);
        }
        due("21 the longest, wires again", x.wires(), 4095);
        due("21 the longest, nodes again", x.nodes(), 7);
    }

    private static void promise22() {
        ExactWires x = of("eieiei", 0, 1, 3, 1, 2, 6, 2, 2, 5, 0, 2, 4, 2, 3, 1, 3, 4, 1, 4, 5, 9);
        // LOOP of 2, SPIKE of 5, SERIES of 1 (adds wire 7), PARALLEL of 3 and 7; 3 is not whole.
        due("22 moves", x.simplify(), 4);
        due("22 nodes", x.nodes(), 0b011101);
        due("22 wires", x.wires(), 0b111000);
        dueWire("22 the lower wire stays", x, 3, 0, 2, 6);
        due("22 nothing more", x.simplify(), 0);
        due("22 PARALLEL undone", x.undo(), 3);
        dueWire("22 SERIES was ahead of it", x, 7, 0, 2, 2);
        due("22 SERIES undone", x.undo(), 2);
        due("22 SPIKE undone", x.undo(), 1);
        due("22 SPIKE undone, nodes", x.nodes(), 63);
        due("22 LOOP undone", x.undo(), 0);
        due("22 all undone", x.wires(), 127);

        ExactWires first = of("ee", 0, 1, 50, 0, 1, 20, 0, 1, 5, 0, 1, 4);
        // 0 and 1 are too much, as 1 and 0 are; 2 with 0 is 55; then 1 with 2 is too much, 3 with 1 is 24.
        due("22 PARALLEL of the lowest wire that may", first.simplify(), 2);
        due("22 which wires are left", first.wires(), 0b1100);
        due("22 of 5 and 50", first.wireIs(2, 2), 55);
        due("22 of 4 and 20", first.wireIs(3, 2), 24);

        ExactWires spikes = of("eiii", 0, 1, 2, 1, 2, 2, 2, 3, 2);
        due("22 spikes", spikes.simplify(), 3);
        due("22 spikes, nodes", spikes.nodes(), 1);
        ExactWires star = of("eeei", 0, 3, 6, 1, 3, 6, 2, 3, 6);
        due("22 no TRIANGLE", star.simplify(), 0);
        ExactWires triangle = of("eee", 0, 1, 6, 1, 2, 6, 2, 0, 6);
        due("22 no STAR", triangle.simplify(), 0);
    }

    private static void promises23And24() {
        ExactWires x = of("eeei", 0, 3, 6, 1, 3, 6, 2, 3, 6, 3, 3, 1);
        due("24 without a mark", x.keeps(), true);
        x.mark();
        due("24 at once", x.keeps(), true);
        x.simplify();
        x.move(ExactWires.TRIANGLE, 3);
        due("24 behind moves", x.keeps(), true);
        x.move(ExactWires.STAR, 4);
        due("24 behind STAR", x.keeps(), true);
        x.value(0, 5);
        due("24 values do not count", x.keeps(), true);
        x.wire(0, 1, 1);
        due("24 another answer", x.keeps(), false);
        x.mark();
        due("23 marked again", x.keeps(), true);
        x.node(true);
        due("24 an edge that was not there", x.keeps(), true);
        x.wire(5, 0, 9);
        due("24 an edge that hangs on one", x.keeps(), true);
        x.wire(5, 1, 9);
        due("24 an answer of marked edges, by an edge between", x.keeps(), true);
        x.node(false);
        due("24 the rest is 0", x.keeps(), false);
        x.mark();
        due("23 marked at 0 by 0", x.keeps(), true);
        x.wire(6, 0, 1);
        due("24 no more 0 by 0", x.keeps(), false);

        ExactWires undone = of("eee", 0, 1, 3, 1, 2, 3, 2, 0, 3);
        undone.move(ExactWires.STAR, 0);
        undone.mark();
        due("23 marking forgets no moves", undone.undo(), 0);
        due("24 undoing keeps the mark and answers", undone.keeps(), true);
        undone.wire(0, 2, 1);
        due("24 one pair of three alone", undone.keeps(), false);
        due("24 one edge alone", marked(of("e")).keeps(), true);
        ExactWires none = marked(of("i"));
        none.node(true);
        none.node(true);
        none.wire(1, 2, 3);
        due("24 no edges at the mark", none.keeps(), true);
        ExactWires zero = marked(of("ee"));
        zero.node(false);
        due("24 0 by 1 is not 0 by 0", zero.keeps(), false);
    }

    private static ExactWires marked(ExactWires x) {
        x.mark();
        return x;
    }

    private static void all() {
        promise1();
        promise2();
        promise3();
        promise4();
        promises5And6();
        promises7To9();
        promise10();
        promise11();
        promise12();
        promise13();
        promises14And15();
        promise16();
        promise17();
        promise18();
        promise19();
        promise20();
        promise21();
        numbersUndone();
        longestUndo();
        promise22();
        promises23And24();
    }

    public static void main(String[] args) {
        all();
        end("all promises hold");
    }
}
