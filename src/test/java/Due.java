/** What the tests share: networks made in a line, and answers held against the due ones. */
abstract class Due {
    static final String INDEX = "IndexOutOfBoundsException";
    static final String ARGUMENT = "IllegalArgumentException";
    static final String STATE = "IllegalStateException";
    /** Never the number of a node; some would be one, if only their last bits were looked at. */
    static final int[] NO_NUMBERS = {-1, 7, 8, 31, 32, 64, Integer.MIN_VALUE, Integer.MAX_VALUE};

    static int wrong = 0;

    interface Call {
        void run();
    }

    interface Part {
        long of(boolean isLower);
    }

    static void due(String what, long got, long want) {
        if (got != want) {
            wrong++;
            System.out.println(what + " answered " + got + ", due is " + want);
        }
    }

    static void due(String what, boolean got, boolean want) {
        due(what, got ? 1 : 0, want ? 1 : 0);
    }

    static void due(String what, String got, String want) {
        if (!got.equals(want)) {
            wrong++;
            System.out.println(what + ": " + got + ", due is: " + want);
        }
    }

    static void dueThrow(String what, String want, Call call) {
        due(what + " throws", thrownBy(call), want);
    }

    /** Tells what a call throws, by the very name: a class below it is another one. */
    static String thrownBy(Call call) {
        try {
            call.run();
        } catch (RuntimeException thrown) {
            return thrown.getClass().getSimpleName();
        }
        return "nothing";
    }

    static void dueFraction(String what, Part part, long upper, long lower) {
        due(what + ", upper", part.of(false), upper);
        due(what + ", lower", part.of(true), lower);
    }

    static void dueWire(String what, ExactWires x, int wire, int first, int second, int conductance) {
        due(what + ": first node of " + wire, x.wireIs(wire, 0), first);
        due(what + ": second node of " + wire, x.wireIs(wire, 1), second);
        due(what + ": conductance of " + wire, x.wireIs(wire, 2), conductance);
    }

    static void dueAnswer(String what, ExactWires x, int one, int other, long upper, long lower) {
        dueFraction(what + ": answer", part -> x.answer(one, other, part), upper, lower);
        dueFraction(what + ": answer back", part -> x.answer(other, one, part), upper, lower);
    }

    /** Makes nodes: e for an edge, i for an inner one. */
    static ExactWires of(String nodes) {
        ExactWires x = new ExactWires();
        for (char kind : nodes.toCharArray()) {
            x.node(kind == 'e');
        }
        return x;
    }

    /** Makes nodes and wires, each of three numbers. */
    static ExactWires of(String nodes, int... wires) {
        ExactWires x = of(nodes);
        for (int place = 0; place < wires.length; place += 3) {
            x.wire(wires[place], wires[place + 1], wires[place + 2]);
        }
        return x;
    }

    /** Adds rings and takes each away again, until there were so many wires ever. */
    static void useUp(ExactWires x, int node, int ever) {
        int wire;
        do {
            wire = x.wire(node, node, 1);
            x.move(ExactWires.LOOP, wire);
        } while (wire < ever - 1);
    }

    static void end(String held) {
        System.out.println(wrong == 0 ? held : wrong + " answers are not as due");
        if (wrong != 0) {
            System.exit(1);
        }
    }
}
