import java.math.BigInteger;
import java.util.ArrayDeque;
import java.util.ArrayList;
import java.util.Arrays;
import java.util.Deque;
import java.util.HashMap;
import java.util.List;
import java.util.Map;

/**
 * Long runs of calls, good and bad ones, on the program and on a model that does what the document
 * says word by word: it looks at every set of wires, copies all it has ahead of a move, and reckons
 * in BigInteger. The runs come from a fixed seed, so they are the same each time.
 */
public final class ModelTest {
    private static final int RUNS = 900;
    private static final int CALLS = 512;

    /** One forest: its wires, its weight, and by node the nodes of its tree (0, if not there). */
    private record Forest(int wires, BigInteger weight, int[] treeOf, int[] trees) { }

    private record Wire(int first, int second, int conductance) { }

    /** A fraction in lowest terms, or 0 by 0. */
    private record Fraction(BigInteger upper, BigInteger lower) {
        static Fraction of(BigInteger upper, BigInteger lower) {
            if (lower.signum() == 0) {
                return new Fraction(BigInteger.ZERO, BigInteger.ZERO);
            }
            BigInteger divisor = upper.gcd(lower);
            return new Fraction(upper.divide(divisor), lower.divide(divisor));
        }

        String part(boolean isLower) {
            return String.valueOf((isLower ? lower : upper).longValueExact());
        }
    }

    /** Nodes and wires that are there by number, and the next numbers. */
    private static final class State {
        final Map<Integer, Boolean> nodes = new HashMap<>();
        final Map<Integer, Wire> wires = new HashMap<>();
        int nextNode = 0;
        int nextWire = 0;

        State copy() {
            State copy = new State();
            copy.nodes.putAll(nodes);
            copy.wires.putAll(wires);
            copy.nextNode = nextNode;
            copy.nextWire = nextWire;
            return copy;
        }
    }

    private static final class Model {
        State now = new State();
        final Deque<State> past = new ArrayDeque<>();
        final int[] values = new int[7];
        Map<List<Integer>, Fraction> marked = Map.of();
        List<Forest> forests;

        // ---- forests

        List<Forest> forests() {
            if (forests == null) {
                forests = new ArrayList<>();
                List<Integer> numbers = new ArrayList<>(now.wires.keySet());
                numbers.sort(null);
                for (int choice = 0; choice < 1 << numbers.size(); choice++) {
                    addIfForest(choice, numbers);
                }
            }
            return forests;
        }

        private void addIfForest(int choice, List<Integer> numbers) {
            int[] treeOf = new int[7];
            for (int node : now.nodes.keySet()) {
                treeOf[node] = 1 << node;
            }
            BigInteger weight = BigInteger.ONE;
            int set = 0;
            for (int place = 0; place < numbers.size(); place++) {
                if ((choice & 1 << place) == 0) {
                    continue;
                }
                Wire wire = now.wires.get(numbers.get(place));
                if (treeOf[wire.first] == treeOf[wire.second]) {
                    return;
                }
                int joined = treeOf[wire.first] | treeOf[wire.second];
                for (int node : now.nodes.keySet()) {
                    if ((joined & 1 << node) != 0) {
                        treeOf[node] = joined;
                    }
                }
                weight = weight.multiply(BigInteger.valueOf(wire.conductance));
                set |= 1 << numbers.get(place);
            }
            int[] trees = Arrays.stream(treeOf).filter(tree -> tree != 0).distinct().toArray();
            forests.add(new Forest(set, weight, treeOf, trees));
        }

        private interface Which {
            boolean takes(Forest forest);
        }

        BigInteger count(Which which) {
            BigInteger sum = BigInteger.ZERO;
            for (Forest forest : forests()) {
                if (which.takes(forest)) {
                    sum = sum.add(forest.weight);
                }
            }
            return sum;
        }

        int edges() {
            int set = 0;
            for (int node : now.nodes.keySet()) {
                set |= now.nodes.get(node) ? 1 << node : 0;
            }
            return set;
        }

        BigInteger trees() {
            return count(forest -> forest.trees.length == 1);
        }

        private boolean isOfRest(Forest forest) {
            for (int tree : forest.trees) {
                if (Integer.bitCount(tree & edges()) != 1) {
                    return false;
                }
            }
            return true;
        }

        BigInteger rest() {
            return count(this::isOfRest);
        }

        Fraction answer(int edge, int other) {
            int both = 1 << edge | 1 << other;
            return Fraction.of(count(forest -> {
                if (forest.trees.length != Integer.bitCount(edges()) - 1) {
                    return false;
                }
                for (int tree : forest.trees) {
                    int within = tree & edges();
                    if (within != both && (Integer.bitCount(within) != 1 || (within & both) != 0)) {
                        return false;
                    }
                }
                return true;
            }), rest());
        }

        BigInteger apart(int node, int other, int from) {
            return count(forest -> forest.trees.length == 2 && forest.treeOf[node] != forest.treeOf[other]
                    && forest.treeOf[from] == forest.treeOf[node]);
        }

        // ---- moves, each of which answers the state behind it, or null

        private static boolean joins(Wire wire, int one, int other) {
            return wire.first == one && wire.second == other || wire.first == other && wire.second == one;
        }

        private static int far(Wire wire, int node) {
            return wire.first == node ? wire.second : wire.first;
        }

        private static boolean bring(State state, int first, int second, int upper, int lower) {
            int number = state.nextWire++;
            state.wires.put(number, new Wire(first, second, upper / lower));
            return upper % lower == 0 && upper / lower >= 1 && upper / lower <= 60
                    && state.nextWire <= 20 && state.nextNode <= 7 && state.wires.size() <= 12;
        }

        State loop(int number) {
            State then = now.copy();
            Wire wire = then.wires.remove(number);
            return wire.first == wire.second ? then : null;
        }

        State parallel(int number) {
            Wire wire = now.wires.get(number);
            for (int other = 0; other < 20; other++) {
                Wire second = now.wires.get(other);
                if (second != null && other != number && wire.first != wire.second
                        && joins(second, wire.first, wire.second)) {
                    int sum = wire.conductance + second.conductance;
                    State then = now.copy();
                    then.wires.remove(other);
                    then.wires.put(number, new Wire(wire.first, wire.second, sum));
                    return sum <= 60 ? then : null;
                }
            }
            return null;
        }

        /** Of SPIKE, SERIES, TRIANGLE: 1 to 3 wires. */
        State without(int node, int degree) {
            List<Wire> spokes = new ArrayList<>();
            List<Integer> ends = new ArrayList<>(List.of(node));
            State then = now.copy();
            for (int number = 0; number < 20; number++) {
                Wire wire = now.wires.get(number);
                if (wire != null && (wire.first == node || wire.second == node)) {
                    spokes.add(wire);
                    if (ends.contains(far(wire, node))) {
                        return null;
                    }
                    ends.add(far(wire, node));
                    then.wires.remove(number);
                }
            }
            if (now.nodes.get(node) || spokes.size() != degree) {
                return null;
            }
            then.nodes.remove(node);
            int sum = 0;
            for (Wire spoke : spokes) {
                sum += spoke.conductance;
            }
            boolean isPossible = true;
            for (int one = 0; one < degree; one++) {
                for (int other = one + 1; other < degree; other++) {
                    isPossible &= bring(then, ends.get(one + 1), ends.get(other + 1),
                            spokes.get(one).conductance * spokes.get(other).conductance, sum);
                }
            }
            return isPossible ? then : null;
        }

        State star(int number) {
            Wire wire = now.wires.get(number);
            for (int second = 0; second < 20; second++) {
                for (int third = 0; third < 20; third++) {
                    Wire two = now.wires.get(second);
                    Wire three = now.wires.get(third);
                    if (two == null || three == null || two.first != wire.first && two.second != wire.first) {
                        continue;
                    }
                    int node = far(two, wire.first);
                    boolean areUnlike = wire.first != wire.second && wire.first != node && wire.second != node;
                    if (areUnlike && joins(three, wire.second, node)) {
                        return star(number, second, third, node);
                    }
                }
            }
            return null;
        }

        private State star(int number, int second, int third, int node) {
            State then = now.copy();
            Wire one = then.wires.remove(number);
            Wire two = then.wires.remove(second);
            Wire three = then.wires.remove(third);
            int inner = then.nextNode++;
            then.nodes.put(inner, false);
            int sum = one.conductance * two.conductance + one.conductance * three.conductance
                    + two.conductance * three.conductance;
            boolean isPossible = bring(then, one.first, inner, sum, three.conductance);
            isPossible &= bring(then, one.second, inner, sum, two.conductance);
            isPossible &= bring(then, node, inner, sum, one.conductance);
            return isPossible ? then : null;
        }

        State behind(int kind, int which) {
            switch (kind) {
                case 0: return loop(which);
                case 1: return parallel(which);
                case 5: return star(which);
                default: return without(which, kind - 1);
            }
        }

        static boolean isOfWire(int kind) {
            return kind == 0 || kind == 1 || kind == 5;
        }

        // ---- calls: each answers as text, an exception by its name

        static final String INDEX = "IndexOutOfBoundsException";
        static final String ARGUMENT = "IllegalArgumentException";
        static final String STATE = "IllegalStateException";

        boolean hasNode(int node) {
            return now.nodes.containsKey(node);
        }

        boolean hasEdge(int node) {
            return hasNode(node) && now.nodes.get(node);
        }

        private void changeTo(State state) {
            now = state;
            forests = null;
        }

        String node(boolean isEdge) {
            if (now.nextNode == 7) {
                return STATE;
            }
            past.clear();
            forests = null;
            now.nodes.put(now.nextNode, isEdge);
            return String.valueOf(now.nextNode++);
        }

        String wire(int node, int other, int conductance) {
            if (!hasNode(node) || !hasNode(other)) {
                return INDEX;
            }
            if (conductance < 1 || conductance > 60) {
                return ARGUMENT;
            }
            if (now.nextWire == 20 || now.wires.size() == 12) {
                return STATE;
            }
            past.clear();
            forests = null;
            now.wires.put(now.nextWire, new Wire(node, other, conductance));
            return String.valueOf(now.nextWire++);
        }

        String wireIs(int number, int what) {
            Wire wire = now.wires.get(number);
            if (wire == null) {
                return INDEX;
            }
            if (what < 0 || what > 2) {
                return ARGUMENT;
            }
            return String.valueOf(what == 0 ? wire.first : what == 1 ? wire.second : wire.conductance);
        }

        static String set(Iterable<Integer> numbers) {
            int set = 0;
            for (int number : numbers) {
                set |= 1 << number;
            }
            return String.valueOf(set);
        }

        String tree(int place) {
            if (place < 0) {
                return ARGUMENT;
            }
            int[] sets = forests().stream().filter(forest -> forest.trees.length == 1)
                    .mapToInt(Forest::wires).sorted().toArray();
            return String.valueOf(place < sets.length ? sets[place] : -1);
        }

        String answer(int edge, int other, boolean isLower) {
            if (!hasEdge(edge) || !hasEdge(other)) {
                return INDEX;
            }
            return edge == other ? ARGUMENT : answer(edge, other).part(isLower);
        }

        String value(int edge, int value) {
            if (!hasEdge(edge)) {
                return INDEX;
            }
            if (value < -99 || value > 99) {
                return ARGUMENT;
            }
            values[edge] = value;
            return "";
        }

        String potential(int node, boolean isLower) {
            if (!hasNode(node)) {
                return INDEX;
            }
            if (hasEdge(node)) {
                return String.valueOf(isLower ? 1 : values[node]);
            }
            BigInteger upper = BigInteger.ZERO;
            for (int edge = 0; edge < 7; edge++) {
                if (hasEdge(edge)) {
                    int to = edge;
                    upper = upper.add(BigInteger.valueOf(values[edge]).multiply(
                            count(forest -> isOfRest(forest) && forest.treeOf[node] == forest.treeOf[to])));
                }
            }
            return Fraction.of(upper, rest()).part(isLower);
        }

        Fraction plus(Fraction one, Fraction other, int times) {
            BigInteger upper = one.upper.multiply(other.lower)
                    .add(other.upper.multiply(one.lower).multiply(BigInteger.valueOf(times)));
            return Fraction.of(upper, one.lower.multiply(other.lower));
        }

        Fraction none() {
            return Fraction.of(BigInteger.ZERO, rest());
        }

        Fraction currentAt(int edge) {
            Fraction sum = none();
            for (int other = 0; other < 7; other++) {
                if (other != edge && hasEdge(other)) {
                    sum = plus(sum, answer(edge, other), values[edge] - values[other]);
                }
            }
            return sum;
        }

        String current(int edge, boolean isLower) {
            return hasEdge(edge) ? currentAt(edge).part(isLower) : INDEX;
        }

        String power(boolean isLower) {
            Fraction sum = none();
            for (int edge = 0; edge < 7; edge++) {
                if (hasEdge(edge)) {
                    sum = plus(sum, currentAt(edge), values[edge]);
                }
            }
            return sum.part(isLower);
        }

        String distance(int node, int other, boolean isLower) {
            if (!hasNode(node) || !hasNode(other)) {
                return INDEX;
            }
            if (node == other) {
                return isLower ? "1" : "0";
            }
            return Fraction.of(apart(node, other, node), trees()).part(isLower);
        }

        String chance(int from, int first, int second, boolean isLower) {
            if (!hasNode(from) || !hasNode(first) || !hasNode(second)) {
                return INDEX;
            }
            if (first == second) {
                return ARGUMENT;
            }
            return Fraction.of(apart(first, second, from), apart(first, second, first)).part(isLower);
        }

        String erased(int walk) {
            String digits = String.valueOf(walk);
            if (walk >= 1) {
                for (char digit : digits.toCharArray()) {
                    if (digit != '0' && !hasNode(digit - '1')) {
                        return INDEX;
                    }
                }
            }
            if (walk < 1 || digits.length() > 9 || digits.indexOf('0') >= 0) {
                return ARGUMENT;
            }
            for (int step = 1; step < digits.length(); step++) {
                int one = digits.charAt(step - 1) - '1';
                int other = digits.charAt(step) - '1';
                if (now.wires.values().stream().noneMatch(wire -> joins(wire, one, other))) {
                    return "-1";
                }
            }
            String left = "";
            for (char digit : digits.toCharArray()) {
                int before = left.indexOf(digit);
                left = before >= 0 ? left.substring(0, before + 1) : left + digit;
            }
            return left;
        }

        String starred(int edge, boolean isLower) {
            if (!hasEdge(edge)) {
                return INDEX;
            }
            List<Integer> others = new ArrayList<>();
            for (int node = 0; node < 7; node++) {
                if (node != edge && hasEdge(node)) {
                    others.add(node);
                }
            }
            if (others.size() != 2) {
                return "0";
            }
            Fraction one = answer(edge, others.get(0));
            Fraction two = answer(edge, others.get(1));
            Fraction opposite = answer(others.get(0), others.get(1));
            if (one.upper.signum() <= 0 || two.upper.signum() <= 0 || opposite.upper.signum() <= 0) {
                return "0";
            }
            Fraction sum = plus(plus(times(one, two), times(one, opposite), 1), times(two, opposite), 1);
            return times(sum, new Fraction(opposite.lower, opposite.upper)).part(isLower);
        }

        static Fraction times(Fraction one, Fraction other) {
            return Fraction.of(one.upper.multiply(other.upper), one.lower.multiply(other.lower));
        }

        String move(int kind, int which) {
            if (kind < 0 || kind > 5) {
                return ARGUMENT;
            }
            if (isOfWire(kind) ? !now.wires.containsKey(which) : !hasNode(which)) {
                return INDEX;
            }
            State then = behind(kind, which);
            if (then == null) {
                return STATE;
            }
            past.push(now);
            changeTo(then);
            return "";
        }

        String undo() {
            if (past.isEmpty()) {
                return STATE;
            }
            changeTo(past.pop());
            return String.valueOf(past.size());
        }

        private boolean simplifyOnce() {
            for (int kind = 0; kind <= 3; kind++) {
                for (int which = 0; which < 20; which++) {
                    if (move(kind, which).isEmpty()) {
                        return true;
                    }
                }
            }
            return false;
        }

        String simplify() {
            int done = 0;
            while (simplifyOnce()) {
                done++;
            }
            return String.valueOf(done);
        }

        private Map<List<Integer>, Fraction> answers(int ofEdges) {
            Map<List<Integer>, Fraction> all = new HashMap<>();
            for (int edge = 0; edge < 7; edge++) {
                for (int other = edge + 1; other < 7; other++) {
                    if ((ofEdges & 1 << edge) != 0 && (ofEdges & 1 << other) != 0) {
                        all.put(List.of(edge, other), answer(edge, other));
                    }
                }
            }
            return all;
        }

        String mark() {
            marked = answers(edges());
            return "";
        }

        String keeps() {
            int markedEdges = 0;
            for (List<Integer> pair : marked.keySet()) {
                markedEdges |= 1 << pair.get(0) | 1 << pair.get(1);
            }
            return marked.equals(answers(markedEdges)) ? "1" : "0";
        }
    }

    // ---- runs

    private static long seed = 20261119;

    private static int below(int bound) {
        seed = seed * 6364136223846793005L + 1442695040888963407L;
        return (int) ((seed >>> 33) % bound);
    }

    private static int conductance(int run) {
        int[] round = {1, 2, 3, 4, 6, 12, 2, 6, 30, 60};
        if (below(25) == 0) {
            return new int[] {0, -1, 61, Integer.MIN_VALUE, Integer.MAX_VALUE}[below(5)];
        }
        switch (run % 4) {
            case 0: return 1 + below(60);
            case 1: return round[below(round.length)];
            case 2: return round[below(8)];
            default: return run % 8 < 4 ? 6 : 3 * (1 + below(3));
        }
    }

    private static int number(int most) {
        if (below(40) == 0) {
            return new int[] {-1, 7, 8, 20, 32, 33, -32, Integer.MIN_VALUE, Integer.MAX_VALUE}[below(9)];
        }
        return below(most);
    }

    private static int walk() {
        if (below(12) == 0) {
            return new int[] {0, -1, Integer.MIN_VALUE, Integer.MAX_VALUE, 1111111111, 999999999}[below(6)];
        }
        int walk = 0;
        for (int length = 1 + below(below(10) == 0 ? 10 : 9); length > 0; length--) {
            walk = walk * 10 + (below(40) == 0 ? below(10) : 1 + below(4));
        }
        return walk;
    }

    private static String name(RuntimeException thrown) {
        return thrown.getClass().getSimpleName();
    }

    private static String truth(boolean is) {
        return is ? "1" : "0";
    }

    /** Stars that can be made triangles, so that the runs do this move often enough. */
    private static final int[][] STARS = {{12, 18, 6}, {6, 6, 6}, {60, 60, 60}, {3, 3, 3}, {20, 60, 20}, {30, 60, 10}};

    private static String[] beginWithStar(int run, int step, ExactWires x, Model model) {
        if (step < 4) {
            boolean isEdge = step != run % 4;
            return told("node(" + isEdge + ")", () -> "" + x.node(isEdge), model.node(isEdge));
        }
        int middle = run % 4;
        int end = (middle + step - 3) % 4;
        int d = STARS[run / 4 % STARS.length][step - 4];
        if (below(2) == 0) {
            return told("wire(" + end + ", " + middle + ", " + d + ")", () -> "" + x.wire(end, middle, d),
                    model.wire(end, middle, d));
        }
        return told("wire(" + middle + ", " + end + ", " + d + ")", () -> "" + x.wire(middle, end, d),
                model.wire(middle, end, d));
    }

    /** One call on both; answers what was called, what the program answered, and what is due. */
    private static String[] call(int run, int step, ExactWires x, Model model) {
        if (run % 3 == 2 && step < 7) {
            return beginWithStar(run, step, x, model);
        }
        int what = step < 14 ? below(6) : below(46);
        int most = Math.min(7, model.now.nextNode + below(2));
        int a = number(Math.max(1, most));
        int b = number(Math.max(1, most));
        int c = number(Math.max(1, most));
        if (a == b && below(3) != 0) {
            b = number(7);
        }
        return call(run, step, what, new int[] {a, b, c}, x, model);
    }

    private static String[] call(int run, int step, int what, int[] numbers, ExactWires x, Model model) {
        int a = numbers[0];
        int b = numbers[1];
        int c = numbers[2];
        boolean is = below(2) == 0;
        try {
            if (what < 2) {
                if (step >= 14 && below(40) != 0 || step < 14 && model.now.nextNode > 3 + run % 4) {
                    return new String[] {"nodes()", "" + x.nodes(), Model.set(model.now.nodes.keySet())};
                }
                boolean isEdge = below(10) < 2 + run % 7;
                String due = model.node(isEdge);
                return new String[] {"node(" + isEdge + ")", due(() -> "" + x.node(isEdge)), due};
            }
            if (what < 6) {
                if (step >= 18 && below(25) != 0) {
                    return new String[] {"wires()", "" + x.wires(), Model.set(model.now.wires.keySet())};
                }
                int d = conductance(run);
                String due = model.wire(a, b, d);
                return new String[] {"wire(" + a + ", " + b + ", " + d + ")", due(() -> "" + x.wire(a, b, d)), due};
            }
            return callOnWhole(what, a, b, c, is, x, model);
        } catch (ArithmeticException e) {
            return new String[] {"call " + what, "an answer that is no long", name(e)};
        }
    }

    private static String[] callOnWhole(int what, int a, int b, int c, boolean is, ExactWires x, Model model) {
        switch (what) {
            case 6: return told("trees()", () -> "" + x.trees(), model.trees().toString());
            case 7: return told("treesAnew()", () -> "" + x.treesAnew(), model.trees().toString());
            case 8: return told("rest()", () -> "" + x.rest(), model.rest().toString());
            case 9: {
                int place = below(10) == 0 ? new int[] {-1, Integer.MAX_VALUE, Integer.MIN_VALUE}[below(3)] : below(40);
                return told("tree(" + place + ")", () -> "" + x.tree(place), model.tree(place));
            }
            case 10:
            case 11: return told("answer(" + a + ", " + b + ", " + is + ")",
                    () -> "" + x.answer(a, b, is), model.answer(a, b, is));
            case 12: {
                int value = below(8) == 0 ? new int[] {-100, 100, -99, 99, Integer.MIN_VALUE}[below(5)] : below(199) - 99;
                String due = model.value(a, value);
                return told("value(" + a + ", " + value + ")", () -> { x.value(a, value); return ""; }, due);
            }
            case 13: return told("potential(" + a + ", " + is + ")", () -> "" + x.potential(a, is), model.potential(a, is));
            case 14: return told("current(" + a + ", " + is + ")", () -> "" + x.current(a, is), model.current(a, is));
            case 15: return told("power(" + is + ")", () -> "" + x.power(is), model.power(is));
            case 16: return told("distance(" + a + ", " + b + ", " + is + ")",
                    () -> "" + x.distance(a, b, is), model.distance(a, b, is));
            case 17: return told("chance(" + a + ", " + b + ", " + c + ", " + is + ")",
                    () -> "" + x.chance(a, b, c, is), model.chance(a, b, c, is));
            case 18:
            case 19: {
                int walk = walk();
                return told("erased(" + walk + ")", () -> "" + x.erased(walk), model.erased(walk));
            }
            case 20: return told("starred(" + a + ", " + is + ")", () -> "" + x.starred(a, is), model.starred(a, is));
            case 21: {
                if (below(3) != 0) {
                    return told("simplify()", () -> "0", "0");
                }
                String due = model.simplify();
                return told("simplify()", () -> "" + x.simplify(), due);
            }
            case 22: {
                String due = model.mark();
                return told("mark()", () -> { x.mark(); return ""; }, due);
            }
            case 23:
            case 24: return told("keeps()", () -> truth(x.keeps()), model.keeps());
            case 25:
            case 26:
            case 27:
            case 28:
            case 29: {
                String due = model.undo();
                return told("undo()", () -> "" + x.undo(), due);
            }
            case 30: {
                int wire = number(20);
                int part = below(20) == 0 ? below(9) - 3 : below(3);
                return told("wireIs(" + wire + ", " + part + ")", () -> "" + x.wireIs(wire, part), model.wireIs(wire, part));
            }
            default: {
                int kind = below(30) == 0 ? below(20) - 7 : below(6);
                int which = number(Math.max(1, Model.isOfWire(kind) ? model.now.nextWire : model.now.nextNode));
                String due = model.move(kind, which);
                if (due.isEmpty() && kind >= 0 && kind <= 5) {
                    moved[kind]++;
                }
                return told("move(" + kind + ", " + which + ")", () -> { x.move(kind, which); return ""; }, due);
            }
        }
    }

    private static final int[] moved = new int[6];

    private interface Answer {
        String of();
    }

    private static String due(Answer answer) {
        try {
            return answer.of();
        } catch (RuntimeException thrown) {
            return name(thrown);
        }
    }

    private static String[] told(String call, Answer answer, String due) {
        return new String[] {call, due(answer), due};
    }

    /** What cannot be asked in one call: all wires, and that both ways of counting agree. */
    private static String whole(ExactWires x, Model model) {
        if (!String.valueOf(x.nodes()).equals(Model.set(model.now.nodes.keySet()))) {
            return "nodes() answered " + x.nodes();
        }
        if (!String.valueOf(x.wires()).equals(Model.set(model.now.wires.keySet()))) {
            return "wires() answered " + x.wires();
        }
        for (int wire : model.now.wires.keySet()) {
            for (int what = 0; what < 3; what++) {
                if (!String.valueOf(x.wireIs(wire, what)).equals(model.wireIs(wire, what))) {
                    return "wireIs(" + wire + ", " + what + ") answered " + x.wireIs(wire, what);
                }
            }
        }
        return x.trees() == x.treesAnew() ? "" : "trees() answered " + x.trees() + ", treesAnew() " + x.treesAnew();
    }

    private static boolean isAsDue(int run) {
        ExactWires x = new ExactWires();
        Model model = new Model();
        StringBuilder calls = new StringBuilder();
        for (int step = 0; step < CALLS; step++) {
            String[] row = call(run, step, x, model);
            calls.append(row[0]).append(' ');
            String whole = whole(x, model);
            if (!row[1].equals(row[2]) || !whole.isEmpty()) {
                System.out.println("run " + run + ": " + calls);
                System.out.println("  answered " + row[1] + ", due is " + row[2] + " " + whole);
                return false;
            }
        }
        return true;
    }

    public static void main(String[] args) {
        int wrong = 0;
        for (int run = 0; run < RUNS; run++) {
            wrong += isAsDue(run) ? 0 : 1;
        }
        for (int kind = 0; kind < moved.length; kind++) {
            if (moved[kind] < 100) {
                wrong++;
                System.out.println("the runs did the move " + kind + " only " + moved[kind] + " times");
            }
        }
        System.out.println(wrong == 0 ? "all runs are as the model's" : wrong + " are not as due");
        System.out.println("moves: " + Arrays.toString(moved));
        if (wrong != 0) {
            System.exit(1);
        }
    }
}
