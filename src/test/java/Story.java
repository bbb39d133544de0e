/** All that can be asked of an object, as one text: two objects that tell the same are alike. */
final class Story {
    private final ExactWires x;
    private final StringBuilder text = new StringBuilder();

    private Story(ExactWires x) {
        this.x = x;
    }

    private interface Answer {
        long get();
    }

    /** Tells what stands now, and changes nothing. */
    static String now(ExactWires x) {
        Story story = new Story(x);
        story.tellNow();
        return story.text.toString();
    }

    /** Tells what stands now, then behind each undoing, then which node and wire would come next. */
    static String toItsEnd(ExactWires x) {
        Story story = new Story(x);
        story.tellNow();
        // More than can ever be undone: each move takes one of at most 12 wires away, or 3 of 20 up.
        for (int undone = 0; undone < 20; undone++) {
            story.tell("undo", x::undo);
            story.tellNow();
        }
        story.tell("node", () -> x.node(true));
        story.tell("wire", () -> x.wire(0, 0, 1));
        return story.text.toString();
    }

    private void tell(String call, Answer answer) {
        text.append(call).append(' ');
        String thrown = Due.thrownBy(() -> text.append(answer.get()));
        text.append(thrown.equals("nothing") ? "" : thrown).append("; ");
    }

    private void tellBoth(String call, Due.Part part) {
        tell(call, () -> part.of(false));
        tell("by", () -> part.of(true));
    }

    private void tellNow() {
        text.append('\n');
        tell("nodes", x::nodes);
        tell("wires", x::wires);
        tell("trees", x::trees);
        tell("treesAnew", x::treesAnew);
        tell("rest", x::rest);
        tellBoth("power", x::power);
        tell("keeps", () -> x.keeps() ? 1 : 0);
        for (int wire = 0; wire < 20; wire++) {
            tellWire(wire);
        }
        for (int place = 0; place < 5; place++) {
            int each = place;
            tell("tree", () -> x.tree(each));
        }
        for (int node = 0; node < 7; node++) {
            tellNode(node);
        }
    }

    private void tellWire(int wire) {
        for (int what = 0; what < 3; what++) {
            int each = what;
            tell("wireIs", () -> x.wireIs(wire, each));
        }
    }

    private void tellNode(int node) {
        tellBoth("potential", part -> x.potential(node, part));
        tellBoth("current", part -> x.current(node, part));
        tellBoth("starred", part -> x.starred(node, part));
        for (int other = 0; other < 7; other++) {
            int each = other;
            tellBoth("answer", part -> x.answer(node, each, part));
            tellBoth("distance", part -> x.distance(node, each, part));
            tellBoth("chance", part -> x.chance(0, node, each, part));
            tell("erased", () -> x.erased(10 * node + each + 11));
        }
    }
}
