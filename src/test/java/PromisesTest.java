import java.util.Arrays;

/** The promises of the document one by one: ordinary inputs, the named edges, wrong inputs. */
public final class PromisesTest {
    private static final int[] NONE = {};
    private static int wrong = 0;
    private static String promise = "";

    public static void main(String[] args) {
        newObject();
        opening();
        openingInAFullTree();
        texts();
        closing();
        removing();
        removingWhatMayNotGo();
        removingForgetsSets();
        starting();
        axesFromAnInnerNode();
        axesAtTheEdges();
        axesFromAText();
        tests();
        places();
        placesFromSeveralNodes();
        stepsWithWrongInputs();
        havingOneOrNone();
        havingWithWrongInputs();
        valuedNodes();
        keptSets();
        mixing();
        nodesByIndex();
        sums();
        extremeArguments();
        System.out.println(wrong == 0 ? "all promises hold" : wrong + " answers are not as due");
        if (wrong != 0) {
            System.exit(1);
        }
    }

    private static void due(String what, long got, long want) {
        if (got != want) {
            wrong++;
            System.out.println(promise + ": " + what + " answered " + got + ", due is " + want);
        }
    }

    private static void dueSet(String what, TreePaths x, int... want) {
        int[] got = new int[48];
        int size = 0;
        while (size < 48 && x.node(size) != -1) {
            got[size] = x.node(size);
            size++;
        }
        got = Arrays.copyOf(got, size);
        if (!Arrays.equals(got, want)) {
            wrong++;
            System.out.println(promise + ": " + what + " made the set " + Arrays.toString(got)
                    + ", due is " + Arrays.toString(want));
        }
    }

    private static void dueStep(TreePaths x, int axis, int test, int place, int... want) {
        String what = "step(" + axis + ", " + test + ", " + place + ")";
        due(what, x.step(axis, test, place), want.length);
        dueSet(what, x, want);
    }

    /** Makes the set the one node. All nodes are one step along axis 9 from the root. */
    private static void stand(TreePaths x, int node) {
        x.start();
        x.step(9, 10, node + 1);
        dueSet("standing on " + node, x, node);
    }

    private static void dueFrom(TreePaths x, int node, int axis, int test, int place, int... want) {
        stand(x, node);
        dueStep(x, axis, test, place, want);
    }

    /**
     * <pre>
     * 0 name 0
     *   1 name 1
     *     2 text 10
     *     3 name 2
     *       4 text 20
     *       5 name 3
     *     6 text -30
     *   7 name 1
     *   8 text 40
     *   9 name 7
     *     10 name 2
     *       11 text 50
     * </pre>
     * The root is open.
     */
    private static TreePaths sample() {
        TreePaths x = new TreePaths();
        x.open(1);
        x.text(10);
        x.open(2);
        x.text(20);
        x.open(3);
        x.close();
        x.close();
        x.text(-30);
        x.close();
        x.open(1);
        x.close();
        x.text(40);
        x.open(7);
        x.open(2);
        x.text(50);
        x.close();
        x.close();
        return x;
    }

    private static TreePaths full() {
        TreePaths x = new TreePaths();
        for (int i = 1; i < 48; i++) {
            x.text(i);
        }
        return x;
    }

    private static void newObject() {
        promise = "promise 1";
        TreePaths x = new TreePaths();
        dueSet("a new object", x, 0);
        dueStep(x, 9, 10, 0, 0);
        dueStep(x, 0, 0, 0, 0);
        due("sum()", x.sum(), 0);
        due("close()", x.close(), -1);
        due("mix(0, 1)", x.mix(0, 1), 1);
        due("mix(1, 1)", x.mix(1, 1), 1);
        due("mix(0, 0)", x.mix(0, 0), 0);
        TreePaths y = new TreePaths();
        due("mix(1, 0)", y.mix(1, 0), 0);
        due("open(0)", y.open(0), 2);
        dueSet("a second object", y, 0);
        dueSet("the first object beside it", x, NONE);
    }

    private static void opening() {
        promise = "promise 2";
        TreePaths x = new TreePaths();
        due("open(3)", x.open(3), 2);
        due("open(13)", x.open(13), 3);
        due("open(-1)", x.open(-1), 4);
        due("open(MIN)", x.open(Integer.MIN_VALUE), 5);
        dueStep(x, 3, 3, 0, 1);
        dueFrom(x, 0, 3, 5, 0, 2);
        dueFrom(x, 0, 3, 7, 0, 3);
        dueFrom(x, 0, 3, 0, 0, 4);
        dueFrom(x, 4, 4, 10, 0, 0, 1, 2, 3);
        dueFrom(x, 0, 1, 10, 0, 1);
        x.keep(0);
        x.keep(1);
        due("open(1)", x.open(1), 6);
        dueSet("open", x, 0);
        due("mix(0, 0) after open", x.mix(0, 0), 0);
        x.start();
        due("mix(1, 0) after open", x.mix(1, 0), 0);
    }

    private static void openingInAFullTree() {
        promise = "promise 2";
        TreePaths x = new TreePaths();
        for (int i = 2; i <= 48; i++) {
            due("open to " + i, x.open(1), i);
        }
        x.step(3, 10, 0);
        x.keep(0);
        x.keep(1);
        x.step(0, 10, 0);
        due("open in a full tree", x.open(1), -1);
        due("mix(0, 0) after a refused open", x.mix(0, 0), 47);
        due("mix(1, 0) after a refused open", x.mix(1, 0), 47);
        due("node(46)", x.node(46), 47);
        for (int i = 1; i < 48; i++) {
            due("close " + i, x.close(), 0);
        }
        due("close at the root", x.close(), -1);
        due("open in a full tree, the root open", x.open(1), -1);
        due("close after a refused open", x.close(), -1);
        due("remove(47)", x.remove(47), 47);
        due("open after a remove", x.open(5), 48);
        dueFrom(x, 0, 1, 10, 0, 1, 47);
    }

    private static void texts() {
        promise = "promise 3";
        TreePaths x = new TreePaths();
        due("text(5)", x.text(5), 2);
        due("text(-6)", x.text(-6), 3);
        due("open(1)", x.open(1), 4);
        due("text(7)", x.text(7), 5);
        due("text(0)", x.text(0), 6);
        dueStep(x, 1, 8, 0, 1, 2);
        due("sum()", x.sum(), -1);
        dueFrom(x, 3, 1, 8, 0, 4, 5);
        due("sum()", x.sum(), 7);
        x.keep(0);
        x.keep(1);
        due("text(8)", x.text(8), 7);
        dueSet("text", x, 0);
        due("mix(0, 0) after text", x.mix(0, 0), 0);
        x.start();
        due("mix(1, 0) after text", x.mix(1, 0), 0);
        due("close(): a text is not open", x.close(), 0);
        due("close()", x.close(), -1);

        TreePaths y = full();
        y.step(1, 8, 2);
        y.keep(1);
        due("text in a full tree", y.text(9), -1);
        dueSet("a refused text", y, 2);
        due("mix(1, 0) after a refused text", y.mix(1, 0), 1);
        y.start();
        due("step(3, 10, 0)", y.step(3, 10, 0), 47);
        due("sum()", y.sum(), 47 * 48 / 2);
    }

    private static void closing() {
        promise = "promise 4";
        TreePaths x = new TreePaths();
        due("close()", x.close(), -1);
        x.open(1);
        x.open(2);
        x.step(9, 10, 0);
        x.keep(0);
        due("close()", x.close(), 0);
        dueSet("close", x, 0, 1, 2);
        due("mix(0, 0) after close", x.mix(0, 0), 3);
        x.text(1);
        due("close()", x.close(), 0);
        x.text(2);
        due("close()", x.close(), -1);
        due("close()", x.close(), -1);
        x.text(3);
        dueFrom(x, 1, 1, 10, 0, 2, 3);
        dueFrom(x, 0, 1, 10, 0, 1, 4, 5);
        x.step(1, 10, 0);
        x.start();
        x.step(1, 10, 0);
        x.keep(1);
        due("close() at the root", x.close(), -1);
        dueSet("a refused close", x, 1, 4, 5);
        due("mix(1, 0) after a refused close", x.mix(1, 0), 3);
    }

    private static void removing() {
        promise = "promise 5";
        TreePaths x = sample();
        due("remove(3)", x.remove(3), 9);
        dueFrom(x, 0, 1, 10, 0, 1, 4, 5, 6);
        dueFrom(x, 1, 1, 8, 0, 2, 3);
        due("sum()", x.sum(), -20);
        dueFrom(x, 8, 4, 10, 0, 0, 6, 7);
        dueFrom(x, 0, 3, 7, 0, 6);
        dueFrom(x, 0, 3, 8, 0, 2, 3, 5, 8);
        due("sum()", x.sum(), 10 - 30 + 40 + 50);
        due("remove(5): a text", x.remove(5), 8);
        due("remove(1): with all below", x.remove(1), 5);
        dueFrom(x, 0, 1, 10, 0, 1, 2);
        dueFrom(x, 0, 3, 1, 0, 1);
        dueFrom(x, 0, 3, 7, 0, 2);
        dueFrom(x, 4, 4, 10, 0, 0, 2, 3);
        due("remove(2): up to the last", x.remove(2), 2);
        due("remove(1)", x.remove(1), 1);
        due("remove(1)", x.remove(1), -1);
        dueStep(x, 3, 10, 0);

        TreePaths y = new TreePaths();
        y.text(1);
        y.open(1);
        y.text(2);
        y.open(2);
        y.text(3);
        due("remove before the open element", y.remove(1), 5);
        due("remove below an element that is above the open one", y.remove(2), 4);
        due("remove below the open element", y.remove(3), 3);
        y.text(4);
        dueFrom(y, 2, 1, 8, 0, 3);
        due("sum()", y.sum(), 4);
        due("close()", y.close(), 0);
        y.text(5);
        dueFrom(y, 1, 1, 8, 0, 4);
        due("sum()", y.sum(), 5);
        due("close()", y.close(), 0);
        due("close()", y.close(), -1);

        TreePaths z = new TreePaths();
        z.text(9);
        z.remove(1);
        z.open(3);
        dueStep(z, 3, 8, 0);
        dueFrom(z, 0, 3, 3, 0, 1);
    }

    private static void removingWhatMayNotGo() {
        promise = "promise 5";
        TreePaths x = new TreePaths();
        x.text(1);
        x.open(1);
        x.open(2);
        x.open(3);
        x.close();
        x.step(3, 10, 0);
        x.keep(0);
        x.keep(1);
        int[] refused = {0, 2, 3, 5, 48, -1, 64, Integer.MAX_VALUE, Integer.MIN_VALUE};
        for (int node : refused) {
            due("remove(" + node + ")", x.remove(node), -1);
            dueSet("a refused remove", x, 1, 2, 3, 4);
            due("mix(0, 0) after a refused remove", x.mix(0, 0), 4);
            due("mix(1, 0) after a refused remove", x.mix(1, 0), 4);
        }
        due("remove(4)", x.remove(4), 4);
        due("remove(4): gone", x.remove(4), -1);
        due("remove(3): open", x.remove(3), -1);
        x.close();
        due("remove(2): open", x.remove(2), -1);
        due("remove(3): closed", x.remove(3), 3);
        x.close();
        due("remove(0): the root", x.remove(0), -1);
        due("remove(2): closed", x.remove(2), 2);

        TreePaths y = full();
        due("remove(48) in a full tree", y.remove(48), -1);
        due("remove(47) in a full tree", y.remove(47), 47);
    }

    private static void removingForgetsSets() {
        promise = "promise 5";
        TreePaths x = sample();
        x.step(9, 10, 0);
        x.keep(0);
        x.keep(1);
        x.remove(11);
        dueSet("remove", x, 0);
        due("mix(0, 0) after remove", x.mix(0, 0), 0);
        x.start();
        due("mix(1, 0) after remove", x.mix(1, 0), 0);
    }

    private static void starting() {
        promise = "promise 6";
        TreePaths x = sample();
        x.step(1, 10, 0);
        x.keep(0);
        x.step(1, 10, 0);
        x.keep(1);
        x.start();
        dueSet("start", x, 0);
        x.mix(0, 1);
        dueSet("mix(0, 1) after start", x, 0, 1, 7, 8, 9);
        x.start();
        x.mix(1, 1);
        dueSet("mix(1, 1) after start", x, 0, 2, 3, 6, 10);
        x.mix(0, 0);
        dueSet("mix(0, 0)", x, NONE);
        x.start();
        dueSet("start from an empty set", x, 0);

        TreePaths y = new TreePaths();
        y.open(1);
        y.start();
        due("close() after start: the open element stays", y.close(), 0);
    }

    private static void axesFromAnInnerNode() {
        promise = "promise 7";
        TreePaths x = sample();
        dueFrom(x, 3, 0, 10, 0, 3);
        dueFrom(x, 3, 1, 10, 0, 4, 5);
        dueFrom(x, 3, 2, 10, 0, 1);
        dueFrom(x, 1, 3, 10, 0, 2, 3, 4, 5, 6);
        dueFrom(x, 3, 4, 10, 0, 0, 1);
        dueFrom(x, 3, 5, 10, 0, 6);
        dueFrom(x, 3, 6, 10, 0, 2);
        dueFrom(x, 3, 7, 10, 0, 6, 7, 8, 9, 10, 11);
        dueFrom(x, 9, 8, 10, 0, 1, 2, 3, 4, 5, 6, 7, 8);
        dueFrom(x, 1, 9, 10, 0, 1, 2, 3, 4, 5, 6);
        dueFrom(x, 3, 10, 10, 0, 0, 1, 3);
        dueFrom(x, 1, 5, 10, 0, 7, 8, 9);
        dueFrom(x, 9, 6, 10, 0, 1, 7, 8);
        dueFrom(x, 11, 8, 10, 0, 1, 2, 3, 4, 5, 6, 7, 8);
    }

    private static void axesAtTheEdges() {
        promise = "promise 7";
        TreePaths x = sample();
        int[] nothingFromTheRoot = {2, 4, 5, 6, 7, 8};
        for (int axis : nothingFromTheRoot) {
            dueFrom(x, 0, axis, 10, 0);
        }
        dueFrom(x, 0, 0, 10, 0, 0);
        dueFrom(x, 0, 10, 10, 0, 0);
        dueFrom(x, 0, 9, 10, -1, 11);
        dueFrom(x, 9, 7, 10, 0);
        dueFrom(x, 9, 5, 10, 0);
        dueFrom(x, 1, 8, 10, 0);
        dueFrom(x, 1, 6, 10, 0);
        dueFrom(x, 7, 1, 10, 0);
        dueFrom(x, 7, 3, 10, 0);
        due("step from an empty set", x.step(9, 10, 0), 0);

        TreePaths y = full();
        due("step(3, 10, 0)", y.step(3, 10, 0), 47);
        dueFrom(y, 0, 9, 10, 48, 47);
        dueFrom(y, 0, 9, 10, -48, 0);
        dueFrom(y, 0, 3, 10, 48);
        dueFrom(y, 0, 3, 10, -48);
        dueFrom(y, 47, 6, 10, 46, 1);
        dueFrom(y, 1, 7, 10, 46, 47);
    }

    private static void axesFromAText() {
        promise = "promise 7";
        TreePaths x = sample();
        dueFrom(x, 4, 0, 10, 0, 4);
        dueFrom(x, 4, 1, 10, 0);
        dueFrom(x, 4, 2, 10, 0, 3);
        dueFrom(x, 4, 3, 10, 0);
        dueFrom(x, 4, 4, 10, 0, 0, 1, 3);
        dueFrom(x, 4, 5, 10, 0, 5);
        dueFrom(x, 4, 6, 10, 0);
        dueFrom(x, 4, 7, 10, 0, 5, 6, 7, 8, 9, 10, 11);
        dueFrom(x, 4, 8, 10, 0, 2);
        dueFrom(x, 4, 9, 10, 0, 4);
        dueFrom(x, 4, 10, 10, 0, 0, 1, 3, 4);
    }

    private static void tests() {
        promise = "promise 7";
        TreePaths x = sample();
        dueFrom(x, 0, 9, 0, 0, 0);
        dueFrom(x, 0, 9, 1, 0, 1, 7);
        dueFrom(x, 0, 9, 2, 0, 3, 10);
        dueFrom(x, 0, 9, 3, 0, 5);
        dueFrom(x, 0, 9, 4, 0);
        dueFrom(x, 0, 9, 7, 0, 9);
        dueFrom(x, 0, 9, 8, 0, 2, 4, 6, 8, 11);
        dueFrom(x, 0, 9, 9, 0, 0, 1, 3, 5, 7, 9, 10);
        dueFrom(x, 0, 9, 10, 0, 0, 1, 2, 3, 4, 5, 6, 7, 8, 9, 10, 11);
        dueFrom(x, 4, 0, 9, 0);
        dueFrom(x, 3, 0, 8, 0);
        // A text whose value is like a name is no element of that name.
        TreePaths y = new TreePaths();
        y.text(0);
        y.text(3);
        dueFrom(y, 0, 3, 0, 0);
        dueFrom(y, 0, 3, 3, 0);
        dueFrom(y, 0, 3, 9, 0);
    }

    private static void places() {
        promise = "promise 7";
        TreePaths x = sample();
        dueFrom(x, 0, 1, 10, 1, 1);
        dueFrom(x, 0, 1, 10, 4, 9);
        dueFrom(x, 0, 1, 10, 5);
        dueFrom(x, 0, 1, 10, -1, 9);
        dueFrom(x, 0, 1, 10, -4, 1);
        dueFrom(x, 0, 1, 10, -5);
        dueFrom(x, 0, 3, 8, 2, 4);
        dueFrom(x, 0, 3, 8, -2, 8);
        dueFrom(x, 11, 4, 10, 1, 10);
        dueFrom(x, 11, 4, 10, 3, 0);
        dueFrom(x, 11, 4, 10, -1, 0);
        dueFrom(x, 11, 4, 10, -3, 10);
        dueFrom(x, 1, 5, 10, 1, 7);
        dueFrom(x, 1, 5, 10, -1, 9);
        dueFrom(x, 9, 6, 10, 1, 8);
        dueFrom(x, 9, 6, 10, 3, 1);
        dueFrom(x, 9, 6, 10, -1, 1);
        dueFrom(x, 3, 7, 10, 1, 6);
        dueFrom(x, 3, 7, 10, -1, 11);
        dueFrom(x, 9, 8, 10, 1, 8);
        dueFrom(x, 9, 8, 9, 2, 5);
        dueFrom(x, 9, 8, 10, -1, 1);
        dueFrom(x, 1, 9, 10, 1, 1);
        dueFrom(x, 1, 9, 10, 2, 2);
        dueFrom(x, 1, 9, 10, -1, 6);
        dueFrom(x, 11, 10, 10, 1, 11);
        dueFrom(x, 11, 10, 9, 1, 10);
        dueFrom(x, 11, 10, 10, -1, 0);
        dueFrom(x, 11, 10, 10, -4, 11);
        dueFrom(x, 11, 10, 10, -5);
        dueFrom(x, 3, 2, 10, 1, 1);
        dueFrom(x, 3, 2, 10, -1, 1);
        dueFrom(x, 3, 2, 10, 2);
        dueFrom(x, 3, 0, 10, 1, 3);
        dueFrom(x, 3, 0, 10, -1, 3);
        dueFrom(x, 3, 0, 10, 2);
        dueFrom(x, 3, 0, 10, 48);
        dueFrom(x, 3, 0, 10, -48);
    }

    private static void placesFromSeveralNodes() {
        promise = "promise 7";
        TreePaths x = sample();
        // The place is counted from each node of the set, not over all that is found.
        dueStep(x, 9, 9, 0, 0, 1, 3, 5, 7, 9, 10);
        dueStep(x, 1, 10, 1, 1, 2, 4, 10, 11);
        x.start();
        x.step(9, 9, 0);
        dueStep(x, 1, 10, -1, 5, 6, 9, 10, 11);
        x.start();
        x.step(3, 8, 0);
        dueStep(x, 2, 10, 0, 0, 1, 3, 10);
        // One node may be found in several ways and is in the set once.
        x.start();
        x.step(9, 10, 0);
        dueStep(x, 10, 10, -1, 0);
    }

    private static void stepsWithWrongInputs() {
        promise = "promise 7";
        TreePaths x = sample();
        x.step(1, 10, 0);
        x.keep(0);
        int[] outside = {-1, 11, 100, Integer.MIN_VALUE, Integer.MAX_VALUE};
        for (int number : outside) {
            due("step(" + number + ", 10, 0)", x.step(number, 10, 0), -1);
            due("step(1, " + number + ", 0)", x.step(1, number, 0), -1);
        }
        int[] noPlaces = {49, -49, Integer.MIN_VALUE, Integer.MAX_VALUE};
        for (int place : noPlaces) {
            due("step(1, 10, " + place + ")", x.step(1, 10, place), -1);
        }
        dueSet("a refused step", x, 1, 7, 8, 9);
        due("mix(0, 0) after a refused step", x.mix(0, 0), 4);
        dueStep(x, 1, 10, 48);
        due("step(11, 10, 0) from an empty set", x.step(11, 10, 0), -1);
        due("mix(0, 1): a step leaves the kept sets", x.mix(0, 1), 4);
    }

    private static void havingOneOrNone() {
        promise = "promise 8";
        TreePaths x = sample();
        x.step(9, 10, 0);
        x.keep(0);
        due("having(1, 8, true)", x.having(1, 8, true), 4);
        dueSet("having(1, 8, true)", x, 0, 1, 3, 10);
        x.mix(0, 1);
        due("having(1, 8, false)", x.having(1, 8, false), 8);
        dueSet("having(1, 8, false)", x, 2, 4, 5, 6, 7, 8, 9, 11);
        x.mix(0, 1);
        due("having(2, 10, false)", x.having(2, 10, false), 1);
        dueSet("having(2, 10, false)", x, 0);
        x.mix(0, 1);
        due("having(4, 2, true)", x.having(4, 2, true), 3);
        dueSet("having(4, 2, true)", x, 4, 5, 11);
        due("having(5, 10, true)", x.having(5, 10, true), 1);
        dueSet("having(5, 10, true)", x, 4);
        due("having(0, 9, true)", x.having(0, 9, true), 0);
        due("having(0, 10, false) of nothing", x.having(0, 10, false), 0);
        due("mix(0, 1): having leaves the kept sets", x.mix(0, 1), 12);
        due("having(0, 10, true)", x.having(0, 10, true), 12);
        due("having(0, 10, false)", x.having(0, 10, false), 0);
    }

    private static void havingWithWrongInputs() {
        promise = "promise 8";
        TreePaths x = sample();
        x.step(1, 10, 0);
        int[] outside = {-1, 11, 100, Integer.MIN_VALUE, Integer.MAX_VALUE};
        for (int number : outside) {
            due("having(" + number + ", 10, true)", x.having(number, 10, true), -1);
            due("having(" + number + ", 10, false)", x.having(number, 10, false), -1);
            due("having(1, " + number + ", true)", x.having(1, number, true), -1);
            due("having(1, " + number + ", false)", x.having(1, number, false), -1);
        }
        dueSet("a refused having", x, 1, 7, 8, 9);
    }

    private static void valuedNodes() {
        promise = "promise 9";
        TreePaths x = sample();
        x.step(9, 10, 0);
        x.keep(0);
        due("valued(20, 40)", x.valued(20, 40), 5);
        dueSet("valued(20, 40)", x, 0, 1, 3, 4, 8);
        x.mix(0, 1);
        due("valued(10, 10)", x.valued(10, 10), 3);
        dueSet("valued(10, 10)", x, 0, 1, 2);
        x.mix(0, 1);
        due("valued(-30, -1)", x.valued(-30, -1), 3);
        dueSet("valued(-30, -1)", x, 0, 1, 6);
        x.mix(0, 1);
        due("valued(21, 39)", x.valued(21, 39), 0);
        x.mix(0, 1);
        due("valued(40, 20)", x.valued(40, 20), 0);
        x.mix(0, 1);
        // Names are no values, nor do elements have one: 5 and 7 stay out.
        due("valued(MIN, MAX)", x.valued(Integer.MIN_VALUE, Integer.MAX_VALUE), 10);
        dueSet("valued(MIN, MAX)", x, 0, 1, 2, 3, 4, 6, 8, 9, 10, 11);
        x.mix(0, 1);
        due("valued(MAX, MIN)", x.valued(Integer.MAX_VALUE, Integer.MIN_VALUE), 0);
        x.start();
        x.step(1, 9, 0);
        due("valued(50, 50)", x.valued(50, 50), 1);
        dueSet("valued keeps only what is in the set", x, 9);

        TreePaths y = new TreePaths();
        y.text(Integer.MIN_VALUE);
        y.text(Integer.MAX_VALUE);
        y.step(3, 10, 0);
        due("valued(MIN, 0)", y.valued(Integer.MIN_VALUE, 0), 1);
        dueSet("valued(MIN, 0)", y, 1);
    }

    private static void keptSets() {
        promise = "promise 10";
        TreePaths x = sample();
        x.step(1, 10, 0);
        x.keep(0);
        dueSet("keep leaves the set", x, 1, 7, 8, 9);
        x.step(1, 10, 0);
        x.keep(1);
        x.step(1, 10, 0);
        due("mix(0, 0)", x.mix(0, 0), 0);
        x.mix(0, 1);
        dueSet("kept set 0", x, 1, 7, 8, 9);
        x.mix(0, 2);
        x.mix(1, 1);
        dueSet("kept set 1", x, 2, 3, 6, 10);
        x.start();
        x.keep(-2);
        x.mix(0, 0);
        dueSet("keep(-2) is keep(0), in place of what was there", x, 0);
        x.step(9, 3, 0);
        x.keep(7);
        x.start();
        x.mix(1, 1);
        dueSet("keep(7) is keep(1)", x, 0, 5);
        x.keep(Integer.MIN_VALUE);
        x.start();
        x.step(9, 10, 0);
        due("keep(MIN) is keep(0)", x.mix(0, 0), 2);
        x.keep(-1);
        due("keep(-1) is keep(1)", x.mix(1, 0), 2);
    }

    private static void mixing() {
        promise = "promise 11";
        TreePaths x = sample();
        x.step(1, 10, 0);
        x.keep(0);
        x.start();
        x.step(9, 9, 0);
        x.keep(1);
        due("mix(0, 0)", x.mix(0, 0), 3);
        dueSet("mix(0, 0)", x, 1, 7, 9);
        x.start();
        due("mix(0, 1)", x.mix(0, 1), 5);
        dueSet("mix(0, 1)", x, 0, 1, 7, 8, 9);
        due("mix(1, 2)", x.mix(1, 2), 1);
        dueSet("mix(1, 2)", x, 8);
        due("mix(1, 1)", x.mix(1, 1), 8);
        due("mix(-4, 2)", x.mix(-4, 2), 4);
        dueSet("mix(-4, 2): slot 0", x, 0, 3, 5, 10);
        due("mix(-1, 0)", x.mix(-1, 0), 4);
        dueSet("mix(-1, 0): slot 1", x, 0, 3, 5, 10);
        int[] noKinds = {3, -1, 4, 256, Integer.MIN_VALUE, Integer.MAX_VALUE};
        for (int kind : noKinds) {
            due("mix(0, " + kind + ")", x.mix(0, kind), -1);
            due("mix(1, " + kind + ")", x.mix(1, kind), -1);
        }
        dueSet("a refused mix", x, 0, 3, 5, 10);
        x.mix(0, 1);
        x.mix(0, 0);
        dueSet("mix leaves kept set 0", x, 1, 7, 8, 9);
        x.mix(1, 1);
        x.mix(1, 0);
        dueSet("mix leaves kept set 1", x, 0, 1, 3, 5, 7, 9, 10);
    }

    private static void nodesByIndex() {
        promise = "promise 12";
        TreePaths x = sample();
        x.step(1, 10, 0);
        due("node(0)", x.node(0), 1);
        due("node(1)", x.node(1), 7);
        due("node(2)", x.node(2), 8);
        due("node(3)", x.node(3), 9);
        due("node(4)", x.node(4), -1);
        due("node(-1)", x.node(-1), -1);
        due("node(48)", x.node(48), -1);
        due("node(64)", x.node(64), -1);
        due("node(MIN)", x.node(Integer.MIN_VALUE), -1);
        due("node(MAX)", x.node(Integer.MAX_VALUE), -1);
        due("step(1, 10, 48)", x.step(1, 10, 48), 0);
        due("node(0) of nothing", x.node(0), -1);
        // Lesser numbers come first, also behind a step whose axis runs the other way.
        stand(x, 9);
        x.step(6, 10, 0);
        due("node(0)", x.node(0), 1);
        due("node(2)", x.node(2), 8);

        TreePaths y = full();
        y.step(9, 10, 0);
        due("node(47)", y.node(47), 47);
        due("node(48)", y.node(48), -1);
    }

    private static void sums() {
        promise = "promise 13";
        TreePaths x = sample();
        due("sum() of the root: not of what is below", x.sum(), 0);
        x.step(9, 10, 0);
        due("sum()", x.sum(), 90);
        x.step(0, 9, 0);
        due("sum() of elements", x.sum(), 0);
        x.start();
        x.step(1, 10, 0);
        due("sum() of children", x.sum(), 40);
        dueSet("sum leaves the set", x, 1, 7, 8, 9);
        x.step(1, 10, 48);
        due("sum() of nothing", x.sum(), 0);

        TreePaths y = new TreePaths();
        y.text(Integer.MAX_VALUE);
        y.text(1);
        y.step(3, 8, 0);
        due("sum() over the greatest int", y.sum(), Integer.MIN_VALUE);
        TreePaths z = new TreePaths();
        z.text(Integer.MIN_VALUE);
        z.text(Integer.MIN_VALUE);
        z.text(-1);
        z.step(3, 8, 0);
        due("sum() under the least int", z.sum(), -1);
    }

    /** No call may throw, whatever it is given and in whatever state. */
    private static void extremeArguments() {
        promise = "no call throws";
        int[] extremes = {Integer.MIN_VALUE, -49, -48, -1, 0, 1, 10, 11, 47, 48, 49, 63, 64, Integer.MAX_VALUE};
        for (int first : extremes) {
            for (int second : extremes) {
                callAll(new TreePaths(), first, second);
                callAll(sample(), first, second);
                callAll(full(), first, second);
            }
        }
    }

    private static void callAll(TreePaths x, int first, int second) {
        x.node(first);
        x.step(first, second, first);
        x.step(9, 10, second);
        x.having(first, second, true);
        x.having(second, first, false);
        x.keep(first);
        x.mix(second, first);
        x.valued(first, second);
        x.sum();
        x.remove(first);
        x.open(second);
        x.text(first);
        x.remove(second);
        x.close();
        x.close();
        x.remove(second);
    }
}
