import java.math.BigInteger;
import java.util.ArrayList;
import java.util.Arrays;
import java.util.List;

/**
 * What the document says that its counts are: currents, potentials, chances of walks, stars that
 * answer alike, moves that keep all answers. What is due is found without any forest: the potentials
 * are solved for, at which the currents even out at each node that is not held.
 */
public final class LawsTest extends Due {
    private static final int NETWORKS = 400;

    private record Ratio(BigInteger upper, BigInteger lower) {
        static final Ratio ZERO = of(0, 1);
        static final Ratio ONE = of(1, 1);

        static Ratio of(BigInteger upper, BigInteger lower) {
            BigInteger divisor = upper.gcd(lower);
            BigInteger signed = lower.signum() < 0 ? divisor.negate() : divisor;
            return new Ratio(upper.divide(signed), lower.divide(signed));
        }

        static Ratio of(long upper, long lower) {
            return of(BigInteger.valueOf(upper), BigInteger.valueOf(lower));
        }

        Ratio plus(Ratio other) {
            return of(upper.multiply(other.lower).add(other.upper.multiply(lower)), lower.multiply(other.lower));
        }

        Ratio minus(Ratio other) {
            return plus(new Ratio(other.upper.negate(), other.lower));
        }

        Ratio times(Ratio other) {
            return of(upper.multiply(other.upper), lower.multiply(other.lower));
        }

        Ratio by(Ratio other) {
            return of(upper.multiply(other.lower), lower.multiply(other.upper));
        }
    }

    /** Nodes and wires as they are read from an object. */
    private static final class Circuit {
        final List<Integer> nodes = new ArrayList<>();
        /** By wire: its number, its first and second node, its conductance. */
        final List<int[]> wires = new ArrayList<>();
        Ratio determinant;

        Circuit(ExactWires x) {
            for (int node = 0; node < 7; node++) {
                if ((x.nodes() >> node & 1) != 0) {
                    nodes.add(node);
                }
            }
            for (int wire = 0; wire < 20; wire++) {
                if ((x.wires() >> wire & 1) != 0) {
                    wires.add(new int[] {wire, x.wireIs(wire, 0), x.wireIs(wire, 1), x.wireIs(wire, 2)});
                }
            }
        }

        boolean hasWireBetween(int one, int other) {
            for (int[] wire : wires) {
                if (wire[1] == one && wire[2] == other || wire[1] == other && wire[2] == one) {
                    return true;
                }
            }
            return false;
        }

        /** The potentials, if those that are not null are held; null, if they are not the only ones. */
        Ratio[] potentials(Ratio[] held, Ratio[] flowingIn) {
            List<Integer> free = new ArrayList<>(nodes);
            free.removeIf(node -> held[node] != null);
            Ratio[][] rows = new Ratio[free.size()][];
            for (int row = 0; row < rows.length; row++) {
                rows[row] = evenOut(free.get(row), free, held, flowingIn);
            }
            if (!solve(rows)) {
                return null;
            }
            Ratio[] potentials = held.clone();
            for (int row = 0; row < rows.length; row++) {
                potentials[free.get(row)] = rows[row][rows.length];
            }
            return potentials;
        }

        private Ratio[] evenOut(int node, List<Integer> free, Ratio[] held, Ratio[] flowingIn) {
            Ratio[] row = new Ratio[free.size() + 1];
            Arrays.fill(row, Ratio.ZERO);
            row[free.size()] = flowingIn[node];
            for (int[] wire : wires) {
                if (wire[1] == wire[2] || wire[1] != node && wire[2] != node) {
                    continue;
                }
                int far = wire[1] == node ? wire[2] : wire[1];
                Ratio conductance = Ratio.of(wire[3], 1);
                row[free.indexOf(node)] = row[free.indexOf(node)].plus(conductance);
                if (held[far] == null) {
                    row[free.indexOf(far)] = row[free.indexOf(far)].minus(conductance);
                } else {
                    row[free.size()] = row[free.size()].plus(conductance.times(held[far]));
                }
            }
            return row;
        }

        /** Leaves the solution in each row's last place; tells whether there is just one. */
        private boolean solve(Ratio[][] rows) {
            determinant = Ratio.ONE;
            for (int step = 0; step < rows.length; step++) {
                int pivot = step;
                while (pivot < rows.length && rows[pivot][step].upper.signum() == 0) {
                    pivot++;
                }
                if (pivot == rows.length) {
                    determinant = Ratio.ZERO;
                    return false;
                }
                Ratio[] row = rows[pivot];
                rows[pivot] = rows[step];
                rows[step] = row;
                determinant = determinant.times(pivot == step ? row[step] : Ratio.ZERO.minus(row[step]));
                clearColumn(rows, step);
            }
            return true;
        }

        private static void clearColumn(Ratio[][] rows, int step) {
            Ratio divisor = rows[step][step];
            for (int column = 0; column <= rows.length; column++) {
                rows[step][column] = rows[step][column].by(divisor);
            }
            for (int row = 0; row < rows.length; row++) {
                Ratio times = rows[row][step];
                for (int column = 0; row != step && column <= rows.length; column++) {
                    rows[row][column] = rows[row][column].minus(times.times(rows[step][column]));
                }
            }
        }

        /** The current from a node into its wires. */
        Ratio currentAt(int node, Ratio[] potentials) {
            Ratio sum = Ratio.ZERO;
            for (int[] wire : wires) {
                if (wire[1] == node || wire[2] == node) {
                    int far = wire[1] == node ? wire[2] : wire[1];
                    Ratio across = potentials[node].minus(potentials[far]);
                    sum = sum.plus(across.times(Ratio.of(wire[3], 1)));
                }
            }
            return sum;
        }

        /** What all wires use up: each its conductance times the square of what lies across it. */
        Ratio power(Ratio[] potentials) {
            Ratio sum = Ratio.ZERO;
            for (int[] wire : wires) {
                Ratio across = potentials[wire[1]].minus(potentials[wire[2]]);
                sum = sum.plus(across.times(across).times(Ratio.of(wire[3], 1)));
            }
            return sum;
        }
    }

    // ---- networks, from a fixed seed

    private static long seed = 20261120;

    private static int below(int bound) {
        seed = seed * 6364136223846793005L + 1442695040888963407L;
        return (int) ((seed >>> 33) % bound);
    }

    private final String name;
    private final String nodes;
    private final int[] wires;
    private final Circuit circuit;
    private final List<Integer> edges = new ArrayList<>();
    private final int[] values = new int[7];

    private LawsTest(int network) {
        StringBuilder kinds = new StringBuilder();
        int howMany = 1 + below(7);
        for (int node = 0; node < howMany; node++) {
            kinds.append(below(7) < 1 + network % 6 ? 'e' : 'i');
        }
        nodes = kinds.toString();
        wires = new int[3 * below(13)];
        int[] round = {1, 2, 3, 4, 6, 12, 18, 20, 30, 60};
        for (int place = 0; place < wires.length; place += 3) {
            wires[place] = below(howMany);
            wires[place + 1] = below(5) == 0 ? below(howMany) : (wires[place] + 1 + below(2)) % howMany;
            wires[place + 2] = network % 3 == 0 ? 1 + below(60) : network % 3 == 1 ? 6 : round[below(round.length)];
        }
        for (int node = 0; node < howMany; node++) {
            if (nodes.charAt(node) == 'e') {
                edges.add(node);
                values[node] = below(199) - 99;
            }
        }
        name = "network " + network + " of " + nodes + " " + Arrays.toString(wires);
        circuit = new Circuit(fresh());
    }

    /** The network anew, so that no object is used for too many calls. */
    private ExactWires fresh() {
        ExactWires x = of(nodes, wires);
        for (int edge : edges) {
            x.value(edge, values[edge]);
        }
        return x;
    }

    private static Ratio[] none() {
        Ratio[] none = new Ratio[7];
        Arrays.fill(none, Ratio.ZERO);
        return none;
    }

    private Ratio[] heldEdges(int one) {
        Ratio[] held = new Ratio[7];
        for (int edge : edges) {
            held[edge] = edge == one ? Ratio.ONE : Ratio.ZERO;
        }
        return held;
    }

    private void dueRatio(String what, Part part, Ratio want) {
        dueFraction(name + ": " + what, part, want == null ? 0 : want.upper.longValueExact(),
                want == null ? 0 : want.lower.longValueExact());
    }

    // ---- "so all currents, the power, and the potentials of inner nodes are [0 by 0], if the rest is 0"

    private void valuesGivePotentials() {
        ExactWires x = fresh();
        Ratio[] held = new Ratio[7];
        for (int edge : edges) {
            held[edge] = Ratio.of(values[edge], 1);
        }
        Ratio[] potentials = circuit.potentials(held, none());
        due(name + ": the rest", x.rest(), circuit.determinant.upper.longValueExact());
        for (int node : circuit.nodes) {
            dueRatio("potential of " + node, part -> x.potential(node, part),
                    potentials == null ? held[node] : potentials[node]);
        }
        for (int edge : edges) {
            dueRatio("current at " + edge, part -> x.current(edge, part),
                    potentials == null ? null : circuit.currentAt(edge, potentials));
        }
        dueRatio("power", x::power, potentials == null ? null : circuit.power(potentials));
    }

    // ---- "It is the current that comes out at j, as i has the potential 1 and all other edges 0"

    private void answersAreCurrents() {
        ExactWires x = fresh();
        for (int edge : edges) {
            Ratio[] potentials = circuit.potentials(heldEdges(edge), none());
            for (int other : edges) {
                if (other != edge) {
                    dueRatio("answer of " + edge + " and " + other, part -> x.answer(edge, other, part),
                            potentials == null ? null : Ratio.ZERO.minus(circuit.currentAt(other, potentials)));
                }
            }
        }
    }

    // ---- A current of 1 from one node to another: what lies across is their distance

    private void distancesAreResistances() {
        ExactWires x = fresh();
        for (int node : circuit.nodes) {
            for (int other : circuit.nodes) {
                Ratio[] held = new Ratio[7];
                held[other] = Ratio.ZERO;
                Ratio[] flowingIn = none();
                flowingIn[node] = Ratio.ONE;
                Ratio[] potentials = circuit.potentials(held, flowingIn);
                due(name + ": the trees", x.trees(), circuit.determinant.upper.longValueExact());
                dueRatio("distance of " + node + " and " + other, part -> x.distance(node, other, part),
                        node == other ? Ratio.ZERO : potentials == null ? null : potentials[node]);
            }
        }
        due(name + ": the trees, anew", x.treesAnew(), x.trees());
    }

    // ---- "A walk goes from a node along one of its wires, each with a chance as its conductance by all of them"

    private void chancesOfWalks() {
        for (int first : circuit.nodes) {
            ExactWires x = fresh();
            for (int second : circuit.nodes) {
                if (first == second) {
                    continue;
                }
                Ratio[] held = new Ratio[7];
                held[first] = Ratio.ONE;
                held[second] = Ratio.ZERO;
                Ratio[] chances = circuit.potentials(held, none());
                for (int from : circuit.nodes) {
                    dueRatio("chance from " + from + " of " + first + " ahead of " + second,
                            part -> x.chance(from, first, second, part), chances == null ? null : chances[from]);
                }
            }
        }
    }

    // ---- "a star of three wires answers alike"

    private void starsAnswerAlike() {
        ExactWires x = fresh();
        boolean isStar = edges.size() == 3;
        for (int edge : edges) {
            for (int other : edges) {
                isStar &= edge == other || x.answer(edge, other, false) > 0;
            }
        }
        Ratio all = Ratio.ZERO;
        for (int edge : edges) {
            due(name + ": there is a star", x.starred(edge, true) > 0, isStar);
            due(name + ": there is a star, upper", x.starred(edge, false) > 0, isStar);
            all = isStar ? all.plus(Ratio.of(x.starred(edge, false), x.starred(edge, true))) : all;
        }
        for (int edge : edges) {
            for (int other : edges) {
                if (isStar && edge != other) {
                    Ratio one = Ratio.of(x.starred(edge, false), x.starred(edge, true));
                    Ratio two = Ratio.of(x.starred(other, false), x.starred(other, true));
                    dueRatio("the star's answer", part -> x.answer(edge, other, part), one.times(two).by(all));
                }
            }
        }
        stars += isStar ? 1 : 0;
    }

    // ---- Trees that are listed weigh as much together as the trees that are counted

    private void treesAreListed() {
        long weight = 0;
        int before = -1;
        ExactWires x = fresh();
        for (int place = 0; place < 400 && x.tree(place) != ExactWires.NONE; place++) {
            int set = x.tree(place);
            due(name + ": trees are listed rising", set > before, true);
            due(name + ": a tree joins all", weightOf(set) > 0, true);
            weight += weightOf(set);
            before = set;
            x = fresh();
        }
        due(name + ": all trees are listed", weight, x.trees());
    }

    /** What a set of wires weighs, 0 if it is no tree of all nodes. */
    private long weightOf(int set) {
        int joined = 1 << circuit.nodes.get(0);
        long weight = 1;
        int left = set;
        for (int round = 0; round < circuit.nodes.size(); round++) {
            for (int[] wire : circuit.wires) {
                boolean hasFirst = (joined >> wire[1] & 1) != 0;
                boolean hasSecond = (joined >> wire[2] & 1) != 0;
                if ((left >> wire[0] & 1) != 0 && hasFirst != hasSecond) {
                    left &= ~(1 << wire[0]);
                    joined |= 1 << wire[1] | 1 << wire[2];
                    weight *= wire[3];
                }
            }
        }
        return left == 0 && Integer.bitCount(joined) == circuit.nodes.size() ? weight : 0;
    }

    // ---- "moves that keep all answers at the edge and can be undone"

    private String answers(ExactWires x) {
        StringBuilder all = new StringBuilder();
        for (int edge : edges) {
            for (int other : edges) {
                if (edge != other) {
                    all.append(x.answer(edge, other, false)).append(" by ").append(x.answer(edge, other, true));
                    all.append(", ");
                }
            }
        }
        return all.toString();
    }

    private void movesKeepAnswers() {
        String answers = answers(fresh());
        String ahead = Story.now(fresh());
        for (int kind = ExactWires.LOOP; kind <= ExactWires.STAR; kind++) {
            for (int which = 0; which < 12; which++) {
                ExactWires x = fresh();
                int each = which;
                int ofKind = kind;
                x.mark();
                if (thrownBy(() -> x.move(ofKind, each)).equals("nothing")) {
                    moved[kind]++;
                    String what = name + ": move " + kind + " of " + which;
                    due(what + " changes something", Story.now(x).equals(ahead), false);
                    due(what + " keeps all answers", answers(x), answers);
                    due(what + " keeps", x.keeps(), true);
                    due(what + " can be undone", x.undo(), 0);
                    due(what + " is undone", Story.now(x), ahead);
                }
            }
        }
    }

    // ---- "a form that is as simple as can be"

    private void simplifiedIsSimple() {
        ExactWires x = fresh();
        int done = x.simplify();
        for (int kind = ExactWires.LOOP; kind <= ExactWires.SERIES; kind++) {
            for (int which = 0; which < 20; which++) {
                int each = which;
                int ofKind = kind;
                String thrown = thrownBy(() -> x.move(ofKind, each));
                due(name + ": simplified, yet move " + kind + " of " + which, thrown.equals("nothing"), false);
            }
        }
        due(name + ": simplified, with all answers", answers(x), answers(fresh()));
        for (int left = done - 1; left >= 0; left--) {
            due(name + ": simplifying undone", x.undo(), left);
        }
        due(name + ": simplifying undone whole", Story.now(x), Story.now(fresh()));
    }

    // ---- "chances of walks and loops that are erased"

    private void walksWithoutLoops() {
        ExactWires x = fresh();
        for (int round = 0; round < 40; round++) {
            StringBuilder walk = new StringBuilder();
            int node = below(circuit.nodes.size());
            boolean isJoined = true;
            for (int length = 1 + below(9); length > 0; length--) {
                walk.append(node + 1);
                int next = below(circuit.nodes.size());
                for (int tries = 0; tries < 20 && !circuit.hasWireBetween(node, next); tries++) {
                    next = below(circuit.nodes.size());
                }
                isJoined &= length == 1 || circuit.hasWireBetween(node, next);
                node = next;
            }
            int left = x.erased(Integer.parseInt(walk.toString()));
            due(name + ": a walk along wires, " + walk, left != ExactWires.NONE, isJoined);
            if (left != ExactWires.NONE) {
                dueWithoutLoops(walk.toString(), String.valueOf(left));
            }
        }
    }

    private void dueWithoutLoops(String walk, String left) {
        String what = name + ": " + walk + " without loops, " + left;
        due(what + ", begins alike", left.charAt(0), walk.charAt(0));
        due(what + ", ends alike", left.charAt(left.length() - 1), walk.charAt(walk.length() - 1));
        due(what + ", has no node twice", left.chars().distinct().count(), left.length());
        for (int step = 1; step < left.length(); step++) {
            due(what + ", goes along wires",
                    circuit.hasWireBetween(left.charAt(step - 1) - '1', left.charAt(step) - '1'), true);
        }
    }

    private static int stars = 0;
    private static final int[] moved = new int[6];

    public static void main(String[] args) {
        for (int network = 0; network < NETWORKS; network++) {
            LawsTest test = new LawsTest(network);
            test.valuesGivePotentials();
            test.answersAreCurrents();
            test.distancesAreResistances();
            test.chancesOfWalks();
            test.starsAnswerAlike();
            test.treesAreListed();
            test.movesKeepAnswers();
            test.simplifiedIsSimple();
            test.walksWithoutLoops();
        }
        due("there were enough stars to tell", stars >= 10, true);
        for (int kind = 0; kind < moved.length; kind++) {
            due("there were enough moves of kind " + kind, moved[kind] >= 10, true);
        }
        System.out.println("stars: " + stars + ", moves: " + Arrays.toString(moved));
        end("all laws hold");
    }
}
