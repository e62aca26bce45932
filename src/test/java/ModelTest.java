import java.util.ArrayList;
import java.util.Collections;
import java.util.LinkedHashSet;
import java.util.List;
import java.util.Set;

/**
 * Long runs of calls on the program and on a model made of linked nodes and lists, which walks the
 * tree as the document tells it; each answer and the set behind each call must be the same.
 */
public final class ModelTest {
    private static final int RUNS = 1500;
    private static final int CALLS = 512;
    // One or two to write or ask, two to look at what the set is then.
    private static final int MOST_CALLS_A_ROUND = 4;
    private static int wrong = 0;

    private static final class Node {
        final Node parent;
        final boolean isText;
        final int content;
        final List<Node> children = new ArrayList<>();

        Node(Node parent, boolean isText, int content) {
            this.parent = parent;
            this.isText = isText;
            this.content = content;
        }
    }

    private static final class Model {
        final Node root = new Node(null, false, 0);
        Node openNode = root;
        Set<Node> set = new LinkedHashSet<>();
        final List<Set<Node>> kept = new ArrayList<>();

        Model() {
            kept.add(new LinkedHashSet<>());
            kept.add(new LinkedHashSet<>());
            set.add(root);
        }

        void forget() {
            start();
            kept.set(0, new LinkedHashSet<>());
            kept.set(1, new LinkedHashSet<>());
        }

        List<Node> all() {
            List<Node> nodes = new ArrayList<>();
            nodes.add(root);
            addBelow(root, nodes);
            return nodes;
        }

        static void addBelow(Node node, List<Node> nodes) {
            for (Node child : node.children) {
                nodes.add(child);
                addBelow(child, nodes);
            }
        }

        static List<Node> above(Node node) {
            List<Node> nodes = new ArrayList<>();
            for (Node at = node.parent; at != null; at = at.parent) {
                nodes.add(at);
            }
            return nodes;
        }

        static List<Node> below(Node node) {
            List<Node> nodes = new ArrayList<>();
            addBelow(node, nodes);
            return nodes;
        }

        int add(boolean isText, int content) {
            if (all().size() == 48) {
                return -1;
            }
            Node added = new Node(openNode, isText, content);
            openNode.children.add(added);
            if (!isText) {
                openNode = added;
            }
            forget();
            return all().size();
        }

        int close() {
            if (openNode == root) {
                return -1;
            }
            openNode = openNode.parent;
            return 0;
        }

        int remove(int number) {
            List<Node> nodes = all();
            if (number < 0 || number >= nodes.size()) {
                return -1;
            }
            Node node = nodes.get(number);
            if (node == root || node == openNode || above(openNode).contains(node)) {
                return -1;
            }
            node.parent.children.remove(node);
            forget();
            return all().size();
        }

        void start() {
            set = new LinkedHashSet<>();
            set.add(root);
        }

        List<Node> along(Node n, int axis) {
            List<Node> nodes = new ArrayList<>();
            List<Node> siblings = n.parent == null ? List.of(n) : n.parent.children;
            int place = siblings.indexOf(n);
            List<Node> all = all();
            int number = all.indexOf(n);
            switch (axis) {
                case 0 -> nodes.add(n);
                case 1 -> nodes.addAll(n.children);
                case 2 -> {
                    if (n.parent != null) {
                        nodes.add(n.parent);
                    }
                }
                case 3 -> nodes.addAll(below(n));
                case 4 -> nodes.addAll(above(n));
                case 5 -> nodes.addAll(siblings.subList(place + 1, siblings.size()));
                case 6 -> {
                    nodes.addAll(siblings.subList(0, place));
                    Collections.reverse(nodes);
                }
                case 7 -> {
                    nodes.addAll(all.subList(number + 1, all.size()));
                    nodes.removeAll(below(n));
                }
                case 8 -> {
                    nodes.addAll(all.subList(0, number));
                    nodes.removeAll(above(n));
                    Collections.reverse(nodes);
                }
                case 9 -> {
                    nodes.add(n);
                    nodes.addAll(below(n));
                }
                default -> {
                    nodes.add(n);
                    nodes.addAll(above(n));
                }
            }
            return nodes;
        }

        List<Node> passing(Node n, int axis, int test) {
            List<Node> nodes = along(n, axis);
            if (test <= 7) {
                nodes.removeIf(node -> node.isText || node.content != test);
            } else if (test == 8) {
                nodes.removeIf(node -> !node.isText);
            } else if (test == 9) {
                nodes.removeIf(node -> node.isText);
            }
            return nodes;
        }

        int step(int axis, int test, int place) {
            if (axis < 0 || axis > 10 || test < 0 || test > 10 || place < -48 || place > 48) {
                return -1;
            }
            Set<Node> found = new LinkedHashSet<>();
            for (Node from : set) {
                List<Node> nodes = passing(from, axis, test);
                int index = place > 0 ? place - 1 : nodes.size() + place;
                if (place == 0) {
                    found.addAll(nodes);
                } else if (index >= 0 && index < nodes.size()) {
                    found.add(nodes.get(index));
                }
            }
            set = found;
            return set.size();
        }

        int having(int axis, int test, boolean wanted) {
            if (axis < 0 || axis > 10 || test < 0 || test > 10) {
                return -1;
            }
            set.removeIf(from -> passing(from, axis, test).isEmpty() == wanted);
            return set.size();
        }

        int valued(int low, int high) {
            set.removeIf(from -> {
                List<Node> nodes = from.isText ? List.of(from) : below(from);
                return nodes.stream().noneMatch(n -> n.isText && low <= n.content && n.content <= high);
            });
            return set.size();
        }

        void keep(int slot) {
            kept.set(slot & 1, new LinkedHashSet<>(set));
        }

        int mix(int slot, int kind) {
            Set<Node> other = kept.get(slot & 1);
            switch (kind) {
                case 0 -> set.retainAll(other);
                case 1 -> set.addAll(other);
                case 2 -> set.removeAll(other);
                default -> {
                    return -1;
                }
            }
            return set.size();
        }

        int node(int index) {
            List<Node> nodes = all();
            List<Node> ordered = new ArrayList<>(nodes);
            ordered.retainAll(set);
            return index < 0 || index >= ordered.size() ? -1 : nodes.indexOf(ordered.get(index));
        }

        int sum() {
            int total = 0;
            for (Node node : set) {
                total += node.isText ? node.content : 0;
            }
            return total;
        }
    }

    /** A fixed row of numbers, so that every run of this test makes the same calls. */
    private static final class Numbers {
        private long state;

        Numbers(long seed) {
            state = seed;
        }

        int below(int bound) {
            state = state * 6364136223846793005L + 1442695040888963407L;
            return (int) ((state >>> 33) % bound);
        }

        int from(int low, int high) {
            return low + below(high - low + 1);
        }
    }

    public static void main(String[] args) {
        for (int run = 0; run < RUNS && wrong < 20; run++) {
            compare(run);
        }
        System.out.println(wrong == 0 ? "program and model agree" : wrong + " answers differ from the model's");
        if (wrong != 0) {
            System.exit(1);
        }
    }

    private static void compare(int run) {
        Numbers numbers = new Numbers(run);
        TreePaths program = new TreePaths();
        Model model = new Model();
        // Some runs build more, some ask more: full trees, deep ones and flat ones all come up.
        int writing = numbers.from(5, 60);
        int closing = numbers.from(1, 8);
        int removing = numbers.from(0, 2);
        int building = numbers.from(10, 90) * MOST_CALLS_A_ROUND;
        int made = 0;
        while (made + MOST_CALLS_A_ROUND <= CALLS) {
            boolean writes = made < building || numbers.below(1000) < writing;
            String differs = writes
                    ? write(program, model, numbers, closing, removing)
                    : ask(program, model, numbers);
            int look = numbers.from(-1, 12);
            int got = program.node(look);
            int want = model.node(look);
            if (got != want) {
                differs += " then node(" + look + ") answered " + got + ", the model " + want;
            }
            got = program.sum();
            want = model.sum();
            if (got != want) {
                differs += " then sum() answered " + got + ", the model " + want;
            }
            made += MOST_CALLS_A_ROUND;
            if (!differs.isEmpty()) {
                wrong++;
                System.out.println("run " + run + ", round " + made / MOST_CALLS_A_ROUND + ":" + differs);
                return;
            }
        }
    }

    private static String differing(String call, int got, int want) {
        return got == want ? "" : " " + call + " answered " + got + ", the model " + want;
    }

    private static String write(TreePaths x, Model m, Numbers numbers, int closing, int removing) {
        int kind = numbers.below(10 + closing + removing);
        if (kind < 5) {
            int name = numbers.from(-9, 20);
            return differing("open(" + name + ")", x.open(name), m.add(false, name & 7));
        }
        if (kind < 10) {
            int value = numbers.below(8) == 0 ? numbers.below(Integer.MAX_VALUE) * 2 : numbers.from(-6, 12);
            return differing("text(" + value + ")", x.text(value), m.add(true, value));
        }
        if (kind < 10 + closing) {
            return differing("close()", x.close(), m.close());
        }
        int node = numbers.from(-1, 48);
        return differing("remove(" + node + ")", x.remove(node), m.remove(node));
    }

    private static String ask(TreePaths x, Model m, Numbers numbers) {
        boolean sound = numbers.below(15) != 0;
        int axis = sound ? numbers.from(0, 10) : numbers.from(-1, 11);
        int test = numbers.below(2) == 0 ? 10 : sound ? numbers.from(0, 10) : numbers.from(-1, 11);
        switch (numbers.below(12)) {
            case 0: {
                x.start();
                m.start();
                return "";
            }
            case 1: {
                boolean wanted = numbers.below(2) == 0;
                String call = "having(" + axis + ", " + test + ", " + wanted + ")";
                return differing(call, x.having(axis, test, wanted), m.having(axis, test, wanted));
            }
            case 2: {
                int low = numbers.from(-7, 12);
                int high = low + numbers.from(-1, 9);
                return differing("valued(" + low + ", " + high + ")", x.valued(low, high), m.valued(low, high));
            }
            case 3: {
                int slot = numbers.from(-3, 3);
                x.keep(slot);
                m.keep(slot);
                return "";
            }
            case 4:
            case 5: {
                int slot = numbers.from(-3, 3);
                int kind = numbers.below(3) == 0 ? numbers.from(-1, 3) : 1;
                return differing("mix(" + slot + ", " + kind + ")", x.mix(slot, kind), m.mix(slot, kind));
            }
            case 6: {
                x.start();
                m.start();
                return differing("step(9, 10, 0)", x.step(9, 10, 0), m.step(9, 10, 0));
            }
            case 7: {
                int place = numbers.from(-50, 50);
                String call = "step(" + axis + ", " + test + ", " + place + ")";
                return differing(call, x.step(axis, test, place), m.step(axis, test, place));
            }
            default: {
                int place = numbers.below(2) == 0 ? 0 : numbers.from(-4, 4);
                String call = "step(" + axis + ", " + test + ", " + place + ")";
                return differing(call, x.step(axis, test, place), m.step(axis, test, place));
            }
        }
    }
}
