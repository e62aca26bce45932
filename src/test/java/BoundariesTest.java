import java.util.ArrayList;
import java.util.List;
import java.util.Map;
import java.util.TreeMap;
import java.util.function.Function;
import java.util.function.Supplier;
import java.util.function.ToIntFunction;

/**
 * Each sentence of the document that names a boundary case has a method here: the case itself, the case
 * just inside the boundary, and, for a call that changes nothing, that what comes later is as if it had
 * not been made.
 */
public final class BoundariesTest {
    private static final int MIN = Integer.MIN_VALUE;
    private static final int MAX = Integer.MAX_VALUE;
    private static int wrong = 0;
    private static String sentence = "";

    public static void main(String[] args) {
        whatItIsAndTerms();
        axes();
        writing();
        removing();
        stepping();
        narrowing();
        keepingAndMixing();
        reading();
        System.out.println(wrong == 0 ? "all boundaries hold" : wrong + " answers are not as due");
        if (wrong != 0) {
            System.exit(1);
        }
    }

    private static void whatItIsAndTerms() {
        atMost512Calls();
        atMost48Nodes();
        nameFrom0To7();
        valueIsAnInt();
        textHasNoChildren();
        nodesInDocumentOrder();
        rootOpenAtTheBeginning();
        newNodesBecomeLastChild();
        testsLetThrough();
        setsAtTheBeginning();
        addingMakesTheSetTheRoot();
        removingMakesTheSetTheRoot();
        otherCallsLeaveTheSets();
    }

    private static void axes() {
        axisItself();
        axisChildren();
        axisParent();
        axisBelow();
        axisAbove();
        axisSiblingsBehind();
        axisSiblingsBefore();
        axisAllBehind();
        axisAllBefore();
        axisItselfAndBelow();
        axisItselfAndAbove();
    }

    private static void writing() {
        newObjectHasTheRootAlone();
        openMasksTheName();
        openedElementIsOpen();
        openAnswersTheNumberOfNodes();
        openIsRefusedIfThereAre48();
        textAnswersAsOpen();
        textIsRefusedIfThereAre48();
        closeOpensTheParent();
        closeIsRefusedIfTheRootIsOpen();
    }

    private static void removing() {
        removeTakesAllBelow();
        removeLessensNumbersBehind();
        removeAnswersTheNumberOfNodes();
        removeIsRefusedIfThereIsNoSuchNode();
        removeIsRefusedForTheRoot();
        removeIsRefusedForTheOpenElement();
        removeIsRefusedAboveTheOpenElement();
    }

    private static void stepping() {
        startFromAnySet();
        placesAboveZero();
        placesBelowZero();
        placeZero();
        noneIfThereIsNoSuchPlace();
        stepFindsEachNodeOnce();
        stepFromAnEmptySet();
        stepIsRefusedForAxes();
        stepIsRefusedForTests();
        stepIsRefusedForPlaces();
    }

    private static void narrowing() {
        havingAtLeastOne();
        havingNone();
        havingOfAnEmptySet();
        havingIsRefusedAsStep();
        valuedFromLowToHigh();
        valuedAtTheEndsOfInt();
        valuedBetweenNothing();
        valuedElementsWithATextBelow();
        valuedOfAnEmptySet();
    }

    private static void keepingAndMixing() {
        keepMasksTheSlot();
        keepAnEmptySet();
        mixMasksTheSlot();
        mixWithEmptySets();
        mixIsRefusedForKinds();
    }

    private static void reading() {
        nodeFromIndex0();
        nodeIsRefusedIfThereIsNone();
        sumWraps();
        sumOfTextsAlone();
    }

    // What is due

    private static void due(String what, long got, long want) {
        if (got != want) {
            fault(what + " answered " + got + ", due is " + want);
        }
    }

    private static void fault(String what) {
        wrong++;
        System.out.println(sentence + ": " + what);
    }

    private static List<Integer> members(TreePaths x) {
        List<Integer> nodes = new ArrayList<>();
        for (int index = 0; index < 48; index++) {
            int node = x.node(index);
            if (node == -1) {
                break;
            }
            nodes.add(node);
        }
        return nodes;
    }

    private static void dueSet(String what, TreePaths x, Integer... want) {
        List<Integer> got = members(x);
        if (!got.equals(List.of(want))) {
            fault(what + " left the set " + got + ", due is " + List.of(want));
        }
    }

    private static void stand(TreePaths x, int node) {
        x.start();
        due("standing on " + node, x.step(9, 10, node + 1), 1);
        due("node(0), standing on " + node, x.node(0), node);
    }

    private static void dueFrom(TreePaths x, int node, int axis, int test, int place, Integer... want) {
        stand(x, node);
        String what = "from " + node + ", step(" + axis + ", " + test + ", " + place + ")";
        due(what, x.step(axis, test, place), want.length);
        dueSet(what, x, want);
    }

    private static void dueKept(String what, TreePaths x, int slot, Integer... want) {
        empty(x);
        due(what + ", size of kept set " + slot, x.mix(slot, 1), want.length);
        dueSet(what + ", kept set " + slot, x, want);
    }

    private static void empty(TreePaths x) {
        x.start();
        x.step(0, 8, 0);
    }

    /**
     * A refused call answers -1, and an object that has got it can't be told from one that has not.
     * Each look has two objects of its own, because looking changes the set and the tree.
     */
    private static void dueRefused(String call, Supplier<TreePaths> before, ToIntFunction<TreePaths> refused) {
        for (Map.Entry<String, Function<TreePaths, String>> look : looks().entrySet()) {
            TreePaths with = before.get();
            due(call, refused.applyAsInt(with), -1);
            due(call + " once more", refused.applyAsInt(with), -1);
            TreePaths without = before.get();
            String got = look.getValue().apply(with);
            String want = look.getValue().apply(without);
            if (!got.equals(want)) {
                fault(look.getKey() + " after " + call + ":\n  " + got + "\nwithout it:\n  " + want);
            }
        }
    }

    private static Map<String, Function<TreePaths, String>> looks() {
        Map<String, Function<TreePaths, String>> looks = new TreeMap<>();
        looks.put("sets", BoundariesTest::sets);
        looks.put("shape of the tree", BoundariesTest::shape);
        looks.put("names and values", BoundariesTest::contents);
        looks.put("open element", BoundariesTest::openElement);
        looks.put("later calls 1", x -> laterCalls(x, 1));
        looks.put("later calls 2", x -> laterCalls(x, 2));
        looks.put("later calls 3", x -> laterCalls(x, 3));
        return looks;
    }

    private static String sets(TreePaths x) {
        StringBuilder seen = new StringBuilder("set " + members(x) + " sum " + x.sum());
        for (int slot = 0; slot < 2; slot++) {
            empty(x);
            x.mix(slot, 1);
            seen.append(" kept ").append(members(x));
        }
        return seen.toString();
    }

    private static String shape(TreePaths x) {
        StringBuilder seen = new StringBuilder("parents");
        x.start();
        int count = x.step(9, 10, 0);
        for (int node = 0; node < count; node++) {
            x.start();
            x.step(9, 10, node + 1);
            x.step(2, 10, 0);
            seen.append(' ').append(x.node(0));
        }
        return seen.toString();
    }

    private static String contents(TreePaths x) {
        StringBuilder seen = new StringBuilder();
        for (int test = 0; test < 8; test++) {
            x.start();
            x.step(9, test, 0);
            seen.append("name ").append(test).append(' ').append(members(x)).append(' ');
        }
        x.start();
        int texts = x.step(9, 8, 0);
        seen.append("texts ").append(members(x)).append(" values");
        for (int text = 1; text <= texts; text++) {
            x.start();
            x.step(9, 8, text);
            seen.append(' ').append(x.sum());
        }
        return seen.toString();
    }

    /** Elements are open one above the other, so how deep the open one is tells which it is. */
    private static String openElement(TreePaths x) {
        StringBuilder seen = new StringBuilder("text " + x.text(77) + " close");
        int closed = 0;
        for (int i = 0; i < 48 && closed == 0; i++) {
            closed = x.close();
            seen.append(' ').append(closed);
        }
        seen.append(" remove ").append(x.remove(1)).append(" open ").append(x.open(5));
        return seen + " " + shape(x);
    }

    /** A fixed row of calls of all kinds, with what they answer. */
    private static String laterCalls(TreePaths x, long seed) {
        StringBuilder seen = new StringBuilder();
        long state = seed;
        for (int i = 0; i < 200; i++) {
            state = state * 6364136223846793005L + 1442695040888963407L;
            int a = (int) (state >>> 33);
            int b = (int) (state >>> 40) & 0xffff;
            seen.append(' ').append(laterCall(x, i, a % 17, a % 11, b % 11, b % 5 - 2));
        }
        return seen.toString();
    }

    private static int laterCall(TreePaths x, int turn, int kind, int axis, int test, int small) {
        // The first calls ask alone: a write would forget the sets that are to be compared.
        int call = turn < 60 && kind >= 13 ? kind - 13 : kind;
        switch (call) {
            case 0, 1, 2:
                return x.step(axis, test, small);
            case 3:
                return x.step(axis, 10, 0);
            case 4:
                return x.having(axis, test, small > 0);
            case 5:
                return x.valued(small * 20, axis * 10);
            case 6, 7:
                return x.mix(small, 1);
            case 8:
                return x.mix(small, axis % 3);
            case 9:
                x.keep(small);
                return 0;
            case 10, 11:
                return x.node(axis / 2);
            case 12:
                return x.sum();
            case 13:
                return x.open(axis);
            case 14:
                return x.text(axis * 10);
            case 15:
                return x.close();
            default:
                return x.remove(axis * 4 + small);
        }
    }

    // Trees

    /**
     * <pre>
     * 0 name 0
     *   1 text 10
     *   2 name 1
     *     3 text -20
     *     4 name 2
     *       5 text 30
     *     6 name 3, open
     *       7 text 40
     *       8 name 1
     * </pre>
     */
    private static TreePaths tree() {
        TreePaths x = new TreePaths();
        x.text(10);
        x.open(1);
        x.text(-20);
        x.open(2);
        x.text(30);
        x.close();
        x.open(3);
        x.text(40);
        x.open(1);
        x.close();
        return x;
    }

    /** Kept set 0 is the first four texts, kept set 1 the elements but the root, the set is 2 and 8. */
    private static TreePaths withSets(TreePaths x) {
        for (int text = 1; text <= 4; text++) {
            x.start();
            x.step(3, 8, text);
            x.mix(0, 1);
            x.keep(0);
        }
        x.start();
        x.step(3, 9, 0);
        x.keep(1);
        x.start();
        x.step(3, 1, 0);
        return x;
    }

    private static TreePaths treeWithSets() {
        return withSets(tree());
    }

    private static TreePaths treeWithSetsAndRootOpen() {
        TreePaths x = tree();
        x.close();
        x.close();
        return withSets(x);
    }

    /** The tree with so many texts more at its end that there are count nodes. */
    private static TreePaths treeOf(int count) {
        TreePaths x = tree();
        for (int node = 9; node < count; node++) {
            x.text(node);
        }
        return x;
    }

    private static TreePaths fullWithSets() {
        return withSets(treeOf(48));
    }

    /** Elements alone, each in the one before; the last is open. */
    private static TreePaths chainOf(int count) {
        TreePaths x = new TreePaths();
        for (int node = 1; node < count; node++) {
            x.open(node);
        }
        return x;
    }

    private static TreePaths textsOf(int count) {
        TreePaths x = new TreePaths();
        for (int node = 1; node < count; node++) {
            x.text(node);
        }
        return x;
    }

    // What it is, and Terms

    private static void atMost512Calls() {
        sentence = "what it is: an object is used for at most 512 calls";
        TreePaths x = new TreePaths();
        for (int call = 1; call <= 509; call += 4) {
            due("call " + call + ", text", x.text(call), 2);
            due("call " + (call + 1) + ", step", x.step(1, 8, 0), 1);
            due("call " + (call + 2) + ", sum", x.sum(), call);
            due("call " + (call + 3) + ", remove", x.remove(1), 1);
        }

        TreePaths full = textsOf(48);
        for (int call = 48; call <= 510; call += 3) {
            due("call " + call + ", open", full.open(1), -1);
            due("call " + (call + 1) + ", remove", full.remove(1), 47);
            due("call " + (call + 2) + ", text", full.text(call), 48);
        }

        TreePaths deep = new TreePaths();
        for (int call = 1; call <= 475; call += 95) {
            for (int node = 1; node < 48; node++) {
                due("call from " + call + ", open " + node, deep.open(node), node + 1);
            }
            for (int node = 1; node < 48; node++) {
                due("call from " + call + ", close " + node, deep.close(), 0);
            }
            due("call from " + call + ", remove", deep.remove(1), 1);
        }
        for (int call = 476; call <= 511; call++) {
            due("call " + call + ", close", deep.close(), -1);
        }
        due("call 512, open", deep.open(1), 2);
    }

    private static void atMost48Nodes() {
        sentence = "terms: the tree has at most 48 nodes";
        TreePaths x = treeOf(47);
        due("step(9, 10, 0) of 47 nodes", x.step(9, 10, 0), 47);
        due("the 48th", x.text(1), 48);
        due("the 49th", x.text(1), -1);
        due("step(9, 10, 0) of 48 nodes", x.step(9, 10, 0), 48);
        due("node(47)", x.node(47), 47);
        due("node(48)", x.node(48), -1);
        x.keep(0);
        x.keep(1);
        empty(x);
        due("a kept set of 48", x.mix(0, 1), 48);
        empty(x);
        due("a kept set of 48", x.mix(1, 1), 48);
        due("48 without 48", x.mix(0, 2), 0);
    }

    private static void nameFrom0To7() {
        sentence = "terms: an element with a name from 0 to 7";
        TreePaths x = chainOf(9);
        // Node 8 is named 0 like the root, for 8 & 7 is 0.
        dueFrom(x, 0, 9, 0, 0, 0, 8);
        for (int name = 1; name <= 7; name++) {
            dueFrom(x, 0, 9, name, 0, name);
        }
    }

    private static void valueIsAnInt() {
        sentence = "terms: a text with a value (an int)";
        int[] values = {MIN, MIN + 1, -1, 0, 1, MAX - 1, MAX};
        TreePaths x = new TreePaths();
        for (int value : values) {
            x.text(value);
        }
        for (int node = 1; node <= values.length; node++) {
            stand(x, node);
            due("sum() of text " + node, x.sum(), values[node - 1]);
        }
    }

    private static void textHasNoChildren() {
        sentence = "terms: a text with a value and no children";
        TreePaths x = textsOf(3);
        dueFrom(x, 1, 1, 10, 0);
        dueFrom(x, 2, 1, 10, 0);
        dueFrom(x, 2, 3, 10, 0);
        dueFrom(x, 0, 1, 10, 0, 1, 2);
    }

    private static void nodesInDocumentOrder() {
        sentence = "terms: nodes are numbered in document order";
        TreePaths flat = textsOf(48);
        dueFrom(flat, 0, 1, 10, 47, 47);
        dueFrom(flat, 47, 2, 10, 0, 0);
        TreePaths deep = chainOf(48);
        dueFrom(deep, 0, 1, 10, 0, 1);
        dueFrom(deep, 47, 2, 10, 0, 46);
        dueFrom(deep, 47, 4, 10, 1, 46);
        dueFrom(deep, 47, 4, 10, 47, 0);
        TreePaths x = tree();
        dueFrom(x, 2, 3, 10, 0, 3, 4, 5, 6, 7, 8);
        dueFrom(x, 4, 3, 10, 0, 5);
        dueFrom(x, 2, 1, 10, 0, 3, 4, 6);
    }

    private static void rootOpenAtTheBeginning() {
        sentence = "terms: there is an open element, the root at the beginning";
        TreePaths x = new TreePaths();
        due("close()", x.close(), -1);
        due("text(1)", x.text(1), 2);
        dueFrom(x, 1, 2, 10, 0, 0);
    }

    private static void newNodesBecomeLastChild() {
        sentence = "terms: new nodes become its last child";
        TreePaths x = tree();
        due("text(50)", x.text(50), 10);
        dueFrom(x, 6, 1, 10, -1, 9);
        due("close()", x.close(), 0);
        due("open(4)", x.open(4), 11);
        dueFrom(x, 2, 1, 10, -1, 10);
        // The new element had no children: the first one is its last one as well.
        due("text(60)", x.text(60), 12);
        dueFrom(x, 10, 1, 10, 0, 11);
        dueFrom(x, 6, 1, 10, 0, 7, 8, 9);
    }

    private static void testsLetThrough() {
        sentence = "terms: a test lets through: 0 to 7 elements with that name; 8 texts; 9 all elements; 10 all nodes";
        TreePaths x = chainOf(9);
        // Values that are like names, and like the numbers of tests.
        x.text(0);
        x.text(7);
        x.text(8);
        dueFrom(x, 1, 9, 0, 0, 8);
        dueFrom(x, 1, 9, 1, 0, 1);
        dueFrom(x, 1, 9, 7, 0, 7);
        dueFrom(x, 1, 9, 8, 0, 9, 10, 11);
        dueFrom(x, 1, 9, 9, 0, 1, 2, 3, 4, 5, 6, 7, 8);
        dueFrom(x, 1, 9, 10, 0, 1, 2, 3, 4, 5, 6, 7, 8, 9, 10, 11);
        TreePaths alone = new TreePaths();
        dueFrom(alone, 0, 0, 0, 0, 0);
        dueFrom(alone, 0, 0, 1, 0);
        dueFrom(alone, 0, 0, 7, 0);
        dueFrom(alone, 0, 0, 8, 0);
        dueFrom(alone, 0, 0, 9, 0, 0);
        dueFrom(alone, 0, 0, 10, 0, 0);
    }

    private static void setsAtTheBeginning() {
        sentence = "terms: the set, at the beginning the root alone; kept sets 0 and 1, empty at the beginning";
        dueSet("a new object", new TreePaths(), 0);
        for (int slot = 0; slot < 2; slot++) {
            TreePaths x = new TreePaths();
            due("mix(" + slot + ", 2)", x.mix(slot, 2), 1);
            due("mix(" + slot + ", 1)", x.mix(slot, 1), 1);
            due("mix(" + slot + ", 0)", x.mix(slot, 0), 0);
        }
    }

    private static void dueForgotten(String what, TreePaths x) {
        dueSet(what, x, 0);
        dueKept(what, x, 0);
        dueKept(what, x, 1);
    }

    private static void addingMakesTheSetTheRoot() {
        sentence = "terms: adding nodes makes the set the root alone and the kept sets empty";
        TreePaths x = treeWithSets();
        due("open(1)", x.open(1), 10);
        dueForgotten("open", x);
        x = treeWithSets();
        due("text(1)", x.text(1), 10);
        dueForgotten("text", x);
        x = withSets(treeOf(47));
        due("open(1), the 48th", x.open(1), 48);
        dueForgotten("the open that fills the tree", x);
        x = withSets(treeOf(47));
        due("text(1), the 48th", x.text(1), 48);
        dueForgotten("the text that fills the tree", x);
        x = treeWithSets();
        empty(x);
        due("text(1)", x.text(1), 10);
        dueSet("text with an empty set", x, 0);
    }

    private static void removingMakesTheSetTheRoot() {
        sentence = "terms: removing nodes makes the set the root alone and the kept sets empty";
        TreePaths x = treeWithSets();
        due("remove(8), the last", x.remove(8), 8);
        dueForgotten("remove of the last", x);
        x = treeWithSets();
        due("remove(1), the first", x.remove(1), 8);
        dueForgotten("remove of the first", x);
        x = fullWithSets();
        due("remove(47) in a full tree", x.remove(47), 47);
        dueForgotten("remove in a full tree", x);
        x = treeWithSets();
        x.start();
        x.keep(1);
        due("remove(5), not in any set", x.remove(5), 8);
        dueForgotten("remove of a node that is in no set", x);
    }

    private static void otherCallsLeaveTheSets() {
        sentence = "terms: (only) adding and removing nodes makes the set the root alone and the kept sets empty";
        TreePaths x = treeWithSets();
        dueSet("before close", x, 2, 8);
        due("close()", x.close(), 0);
        dueSet("close", x, 2, 8);
        due("close()", x.close(), 0);
        due("close() at the root", x.close(), -1);
        dueSet("a refused close", x, 2, 8);
        dueKept("close", x, 0, 1, 3, 5, 7);
        dueKept("close", x, 1, 2, 4, 6, 8);

        TreePaths full = fullWithSets();
        due("open(1)", full.open(1), -1);
        due("text(1)", full.text(1), -1);
        due("remove(48)", full.remove(48), -1);
        dueSet("refused calls", full, 2, 8);
        dueKept("refused calls", full, 0, 1, 3, 5, 7);
        dueKept("refused calls", full, 1, 2, 4, 6, 8);
    }

    // Axes

    private static void axisItself() {
        sentence = "axis 0: itself";
        TreePaths x = tree();
        dueFrom(x, 0, 0, 10, 0, 0);
        dueFrom(x, 5, 0, 10, 0, 5);
        dueFrom(x, 8, 0, 10, 1, 8);
        dueFrom(x, 8, 0, 10, -1, 8);
        dueFrom(x, 8, 0, 10, 2);
        dueFrom(x, 8, 0, 10, -2);
    }

    private static void axisChildren() {
        sentence = "axis 1: its children, first to last";
        TreePaths x = tree();
        dueFrom(x, 8, 1, 10, 0);
        dueFrom(x, 7, 1, 10, 0);
        dueFrom(x, 4, 1, 10, 0, 5);
        dueFrom(x, 2, 1, 10, 1, 3);
        dueFrom(x, 2, 1, 10, 2, 4);
        dueFrom(x, 2, 1, 10, 3, 6);
        dueFrom(x, 2, 1, 10, -1, 6);
        dueFrom(x, 0, 1, 10, 0, 1, 2);
    }

    private static void axisParent() {
        sentence = "axis 2: its parent (nothing from the root)";
        TreePaths x = tree();
        for (int place = -1; place <= 1; place++) {
            dueFrom(x, 0, 2, 10, place);
            dueFrom(x, 1, 2, 10, place, 0);
            dueFrom(x, 2, 2, 10, place, 0);
            dueFrom(x, 8, 2, 10, place, 6);
        }
        dueFrom(x, 0, 2, 0, 0);
        dueFrom(x, 0, 2, 9, 0);
        stand(x, 0);
        due("from the root, having(2, 10, true)", x.having(2, 10, true), 0);
        stand(x, 1);
        due("from 1, having(2, 10, true)", x.having(2, 10, true), 1);
        TreePaths alone = new TreePaths();
        dueFrom(alone, 0, 2, 10, 0);
    }

    private static void axisBelow() {
        sentence = "axis 3: all nodes below it, in document order";
        TreePaths x = tree();
        dueFrom(x, 8, 3, 10, 0);
        dueFrom(x, 1, 3, 10, 0);
        dueFrom(x, 4, 3, 10, 0, 5);
        dueFrom(x, 0, 3, 10, 0, 1, 2, 3, 4, 5, 6, 7, 8);
        dueFrom(x, 2, 3, 10, 1, 3);
        dueFrom(x, 2, 3, 10, 3, 5);
        dueFrom(x, 2, 3, 10, -1, 8);
        TreePaths alone = new TreePaths();
        dueFrom(alone, 0, 3, 10, 0);
    }

    private static void axisAbove() {
        sentence = "axis 4: all nodes above it, the nearest first";
        TreePaths x = tree();
        dueFrom(x, 0, 4, 10, 0);
        dueFrom(x, 1, 4, 10, 0, 0);
        dueFrom(x, 8, 4, 10, 0, 0, 2, 6);
        dueFrom(x, 8, 4, 10, 1, 6);
        dueFrom(x, 8, 4, 10, 2, 2);
        dueFrom(x, 8, 4, 10, 3, 0);
        dueFrom(x, 8, 4, 10, -1, 0);
        dueFrom(x, 8, 4, 10, -3, 6);
    }

    private static void axisSiblingsBehind() {
        sentence = "axis 5: the children of its parent behind it, first to last";
        TreePaths x = tree();
        dueFrom(x, 0, 5, 10, 0);
        dueFrom(x, 2, 5, 10, 0);
        dueFrom(x, 8, 5, 10, 0);
        dueFrom(x, 5, 5, 10, 0);
        dueFrom(x, 1, 5, 10, 0, 2);
        dueFrom(x, 3, 5, 10, 0, 4, 6);
        dueFrom(x, 3, 5, 10, 1, 4);
        dueFrom(x, 3, 5, 10, -1, 6);
    }

    private static void axisSiblingsBefore() {
        sentence = "axis 6: the children of its parent before it, the nearest first";
        TreePaths x = tree();
        dueFrom(x, 0, 6, 10, 0);
        dueFrom(x, 1, 6, 10, 0);
        dueFrom(x, 3, 6, 10, 0);
        dueFrom(x, 5, 6, 10, 0);
        dueFrom(x, 2, 6, 10, 0, 1);
        dueFrom(x, 6, 6, 10, 0, 3, 4);
        dueFrom(x, 6, 6, 10, 1, 4);
        dueFrom(x, 6, 6, 10, -1, 3);
    }

    private static void axisAllBehind() {
        sentence = "axis 7: all nodes with greater numbers that are not below it, in document order";
        TreePaths x = tree();
        dueFrom(x, 0, 7, 10, 0);
        dueFrom(x, 2, 7, 10, 0);
        dueFrom(x, 8, 7, 10, 0);
        dueFrom(x, 7, 7, 10, 0, 8);
        dueFrom(x, 1, 7, 10, 0, 2, 3, 4, 5, 6, 7, 8);
        dueFrom(x, 4, 7, 10, 0, 6, 7, 8);
        dueFrom(x, 4, 7, 10, 1, 6);
        dueFrom(x, 4, 7, 10, -1, 8);
    }

    private static void axisAllBefore() {
        sentence = "axis 8: all nodes with lesser numbers that are not above it, the greatest number first";
        TreePaths x = tree();
        dueFrom(x, 0, 8, 10, 0);
        dueFrom(x, 1, 8, 10, 0);
        dueFrom(x, 2, 8, 10, 0, 1);
        dueFrom(x, 3, 8, 10, 0, 1);
        dueFrom(x, 8, 8, 10, 0, 1, 3, 4, 5, 7);
        dueFrom(x, 8, 8, 10, 1, 7);
        dueFrom(x, 8, 8, 10, 2, 5);
        dueFrom(x, 8, 8, 10, -1, 1);
    }

    private static void axisItselfAndBelow() {
        sentence = "axis 9: itself, then as 3";
        TreePaths x = tree();
        dueFrom(x, 8, 9, 10, 0, 8);
        dueFrom(x, 5, 9, 10, 0, 5);
        dueFrom(x, 6, 9, 10, 0, 6, 7, 8);
        dueFrom(x, 6, 9, 10, 1, 6);
        dueFrom(x, 6, 9, 10, 2, 7);
        dueFrom(x, 6, 9, 10, -1, 8);
        TreePaths alone = new TreePaths();
        dueFrom(alone, 0, 9, 10, 0, 0);
    }

    private static void axisItselfAndAbove() {
        sentence = "axis 10: itself, then as 4";
        TreePaths x = tree();
        dueFrom(x, 0, 10, 10, 0, 0);
        dueFrom(x, 1, 10, 10, 0, 0, 1);
        dueFrom(x, 1, 10, 10, 1, 1);
        dueFrom(x, 1, 10, 10, 2, 0);
        dueFrom(x, 8, 10, 10, 2, 6);
        dueFrom(x, 8, 10, 10, 4, 0);
        dueFrom(x, 8, 10, 10, -1, 0);
        dueFrom(x, 8, 10, 10, -4, 8);
    }

    // Promises 1 to 4

    private static void newObjectHasTheRootAlone() {
        sentence = "promise 1: only the root is there; it is open";
        TreePaths x = new TreePaths();
        due("remove(0)", x.remove(0), -1);
        due("remove(1)", x.remove(1), -1);
        due("close()", x.close(), -1);
        due("step(9, 10, 0)", x.step(9, 10, 0), 1);
        due("node(0)", x.node(0), 0);
        due("node(1)", x.node(1), -1);
        due("step(0, 0, 0)", x.step(0, 0, 0), 1);
        due("sum()", x.sum(), 0);
        due("step(3, 10, 0)", x.step(3, 10, 0), 0);
    }

    private static void openMasksTheName() {
        sentence = "promise 2: an element with the name name & 7";
        int[] names = {0, 7, 8, 9, 15, 16, -1, -7, -8, -9, MIN, MIN + 1, MAX, MAX - 1};
        int[] masked = {0, 7, 0, 1, 7, 0, 7, 1, 0, 7, 0, 1, 7, 6};
        for (int i = 0; i < names.length; i++) {
            TreePaths x = new TreePaths();
            due("open(" + names[i] + ")", x.open(names[i]), 2);
            for (int test = 0; test <= 8; test++) {
                x.start();
                int want = test == masked[i] ? 1 : 0;
                due("after open(" + names[i] + "), step(1, " + test + ", 0)", x.step(1, test, 0), want);
            }
        }
    }

    private static void openedElementIsOpen() {
        sentence = "promise 2: which is open then";
        TreePaths x = treeOf(46);
        due("open(1)", x.open(1), 47);
        due("remove(46): open", x.remove(46), -1);
        due("text(1)", x.text(1), 48);
        dueFrom(x, 47, 2, 10, 0, 46);
        TreePaths last = treeOf(47);
        due("open(1), the 48th", last.open(1), 48);
        due("remove(47): open", last.remove(47), -1);
        due("close()", last.close(), 0);
        due("remove(47): closed", last.remove(47), 47);
        due("text(1)", last.text(1), 48);
        dueFrom(last, 47, 2, 10, 0, 6);
    }

    private static void openAnswersTheNumberOfNodes() {
        sentence = "promise 2: answers the number of nodes then";
        TreePaths x = new TreePaths();
        for (int count = 2; count <= 48; count++) {
            due("open " + count, x.open(count), count);
        }
        for (int i = 0; i < 47; i++) {
            x.close();
        }
        due("remove(46)", x.remove(46), 46);
        due("open(1)", x.open(1), 47);
        due("open(1)", x.open(1), 48);
    }

    private static void openIsRefusedIfThereAre48() {
        sentence = "promise 2: -1, and changes nothing, if there are 48";
        int[] names = {0, 1, 7, 8, -1, MIN, MAX};
        for (int name : names) {
            dueRefused("open(" + name + ")", BoundariesTest::fullWithSets, x -> x.open(name));
            due("open(" + name + ") with 47 nodes", treeOf(47).open(name), 48);
        }
        dueRefused("open(1)", () -> withSets(chainOf(48)), x -> x.open(1));
        dueRefused("open(1)", () -> withSets(textsOf(48)), x -> x.open(1));
        due("open(1) in a chain of 47", chainOf(47).open(1), 48);
        due("open(1) behind 46 texts", textsOf(47).open(1), 48);
        TreePaths x = fullWithSets();
        due("open(1)", x.open(1), -1);
        dueSet("a refused open", x, 2, 8);
        dueKept("a refused open", x, 0, 1, 3, 5, 7);
        dueKept("a refused open", x, 1, 2, 4, 6, 8);
        due("remove(6): still open", x.remove(6), -1);
        due("remove(47)", x.remove(47), 47);
        due("open(1) with room again", x.open(1), 48);
        dueFrom(x, 47, 2, 10, 0, 6);
        due("open(1) with no room again", x.open(1), -1);
    }

    private static void textAnswersAsOpen() {
        sentence = "promise 3: answers as open (the number of nodes then)";
        TreePaths x = new TreePaths();
        for (int count = 2; count <= 48; count++) {
            due("text " + count, x.text(-count), count);
        }
        due("step(1, 8, 0)", x.step(1, 8, 0), 47);
        due("sum()", x.sum(), -(48 * 49 / 2 - 1));
    }

    private static void textIsRefusedIfThereAre48() {
        sentence = "promise 3: answers as open (-1, and changes nothing, if there are 48)";
        int[] values = {0, 1, 8, -1, MIN, MAX};
        for (int value : values) {
            dueRefused("text(" + value + ")", BoundariesTest::fullWithSets, x -> x.text(value));
            TreePaths x = treeOf(47);
            due("text(" + value + ") with 47 nodes", x.text(value), 48);
            stand(x, 47);
            due("sum() of the 48th node", x.sum(), value);
        }
        dueRefused("text(1)", () -> withSets(chainOf(48)), x -> x.text(1));
        dueRefused("text(1)", () -> withSets(textsOf(48)), x -> x.text(1));
        due("text(1) in a chain of 47", chainOf(47).text(1), 48);
        due("text(1) behind 46 texts", textsOf(47).text(1), 48);
        TreePaths x = fullWithSets();
        due("text(1)", x.text(1), -1);
        dueSet("a refused text", x, 2, 8);
        dueKept("a refused text", x, 0, 1, 3, 5, 7);
        dueKept("a refused text", x, 1, 2, 4, 6, 8);
        stand(x, 47);
        due("sum() of the last text", x.sum(), 47);
        due("remove(47)", x.remove(47), 47);
        due("text(1) with room again", x.text(1), 48);
        due("text(1) with no room again", x.text(1), -1);
    }

    private static void closeOpensTheParent() {
        sentence = "promise 4: the parent of the open element is open then; answers 0";
        TreePaths x = chainOf(47);
        for (int element = 46; element >= 2; element--) {
            due("close() of " + element, x.close(), 0);
        }
        due("text(1)", x.text(1), 48);
        dueFrom(x, 47, 2, 10, 0, 1);
        due("close() of 1", x.close(), 0);
        due("close() of the root", x.close(), -1);
    }

    private static void closeIsRefusedIfTheRootIsOpen() {
        sentence = "promise 4: -1 if the root is open";
        dueRefused("close()", TreePaths::new, TreePaths::close);
        dueRefused("close()", BoundariesTest::treeWithSetsAndRootOpen, TreePaths::close);
        dueRefused("close()", () -> withSets(textsOf(48)), TreePaths::close);
        TreePaths x = new TreePaths();
        x.open(1);
        due("close() of a child of the root", x.close(), 0);
        due("close() of the root", x.close(), -1);
        due("open(2)", x.open(2), 3);
        dueFrom(x, 2, 2, 10, 0, 0);
        due("close()", x.close(), 0);
        due("close()", x.close(), -1);
    }

    // Promise 5

    private static void removeTakesAllBelow() {
        sentence = "promise 5: takes the node and all below it out";
        TreePaths x = tree();
        x.close();
        due("remove(4): one below", x.remove(4), 7);
        dueFrom(x, 2, 1, 10, 0, 3, 4);
        dueFrom(x, 4, 1, 10, 0, 5, 6);
        due("remove(6): an element with nothing below", x.remove(6), 6);
        dueFrom(x, 4, 1, 10, 0, 5);
        due("remove(5): a text", x.remove(5), 5);
        dueFrom(x, 4, 1, 10, 0);
        x.close();
        due("remove(2): up to the last node", x.remove(2), 2);
        dueFrom(x, 0, 3, 10, 0, 1);
        due("sum()", x.sum(), 10);

        TreePaths deep = chainOf(48);
        for (int i = 0; i < 47; i++) {
            deep.close();
        }
        due("remove(1): all but the root", deep.remove(1), 1);
        dueFrom(deep, 0, 9, 10, 0, 0);
    }

    private static void removeLessensNumbersBehind() {
        sentence = "promise 5: the nodes behind them get lesser numbers";
        TreePaths x = tree();
        due("remove(4)", x.remove(4), 7);
        dueFrom(x, 0, 9, 3, 0, 4);
        dueFrom(x, 0, 9, 8, 0, 1, 3, 5);
        due("sum()", x.sum(), 10 - 20 + 40);
        dueFrom(x, 6, 4, 10, 0, 0, 2, 4);
        due("text(50): into the element that was open", x.text(50), 8);
        dueFrom(x, 7, 2, 10, 0, 4);
        due("remove(7): nothing behind it", x.remove(7), 7);
        dueFrom(x, 0, 9, 8, 0, 1, 3, 5);
        due("remove(1): all but the root behind it", x.remove(1), 6);
        dueFrom(x, 0, 9, 8, 0, 2, 4);
        dueFrom(x, 0, 9, 1, 0, 1, 5);
        dueFrom(x, 5, 4, 10, 0, 0, 1, 3);
        due("close()", x.close(), 0);
        due("close()", x.close(), 0);
        due("close()", x.close(), -1);
    }

    private static void removeAnswersTheNumberOfNodes() {
        sentence = "promise 5: answers the number of nodes then";
        TreePaths x = textsOf(48);
        for (int count = 47; count >= 1; count--) {
            due("remove to " + count, x.remove(1), count);
        }
        due("remove(1) with the root alone", x.remove(1), -1);
        due("text(1)", x.text(1), 2);
    }

    private static void removeIsRefusedIfThereIsNoSuchNode() {
        sentence = "promise 5: -1, and changes nothing, if there is no such node";
        int[] none = {9, 10, 47, 48, 64, -1, -9, MIN, MAX};
        for (int node : none) {
            dueRefused("remove(" + node + ")", BoundariesTest::treeWithSets, x -> x.remove(node));
            dueRefused("remove(" + node + ")", BoundariesTest::treeWithSetsAndRootOpen, x -> x.remove(node));
        }
        due("remove(8), the last", treeWithSets().remove(8), 8);
        dueRefused("remove(48)", BoundariesTest::fullWithSets, x -> x.remove(48));
        due("remove(47), the last", fullWithSets().remove(47), 47);
        dueRefused("remove(1)", TreePaths::new, x -> x.remove(1));
        due("remove(1), the only one", textsOf(2).remove(1), 1);
        TreePaths x = treeWithSets();
        due("remove(9)", x.remove(9), -1);
        dueSet("a refused remove", x, 2, 8);
        dueKept("a refused remove", x, 0, 1, 3, 5, 7);
        dueKept("a refused remove", x, 1, 2, 4, 6, 8);
        due("remove(8)", x.remove(8), 8);
        due("remove(8): no longer there", x.remove(8), -1);
    }

    private static void removeIsRefusedForTheRoot() {
        sentence = "promise 5: -1, and changes nothing, if it is the root";
        dueRefused("remove(0)", TreePaths::new, x -> x.remove(0));
        dueRefused("remove(0)", BoundariesTest::treeWithSets, x -> x.remove(0));
        dueRefused("remove(0)", BoundariesTest::treeWithSetsAndRootOpen, x -> x.remove(0));
        dueRefused("remove(0)", BoundariesTest::fullWithSets, x -> x.remove(0));
        due("remove(1)", treeWithSets().remove(1), 8);
    }

    private static void removeIsRefusedForTheOpenElement() {
        sentence = "promise 5: -1, and changes nothing, if it is open";
        dueRefused("remove(6)", BoundariesTest::treeWithSets, x -> x.remove(6));
        dueRefused("remove(6)", BoundariesTest::fullWithSets, x -> x.remove(6));
        dueRefused("remove(47)", () -> withSets(chainOf(48)), x -> x.remove(47));
        due("remove(4), the element before it", treeWithSets().remove(4), 7);
        due("remove(7), its first child", treeWithSets().remove(7), 8);
        due("remove(8), its last child", treeWithSets().remove(8), 8);
        TreePaths x = treeWithSets();
        due("remove(6)", x.remove(6), -1);
        due("close()", x.close(), 0);
        due("remove(6), closed", x.remove(6), 6);
    }

    private static void removeIsRefusedAboveTheOpenElement() {
        sentence = "promise 5: -1, and changes nothing, if the open element is below it";
        dueRefused("remove(2)", BoundariesTest::treeWithSets, x -> x.remove(2));
        dueRefused("remove(2)", BoundariesTest::fullWithSets, x -> x.remove(2));
        for (int node = 1; node <= 46; node += 15) {
            int above = node;
            dueRefused("remove(" + node + ")", () -> withSets(chainOf(48)), x -> x.remove(above));
        }
        due("remove(3), beside it", treeWithSets().remove(3), 8);
        due("remove(5), beside it and deeper", treeWithSets().remove(5), 8);
        TreePaths x = treeWithSets();
        due("close()", x.close(), 0);
        due("remove(2), open itself", x.remove(2), -1);
        due("close()", x.close(), 0);
        due("remove(2), closed", x.remove(2), 2);
    }

    // Promises 6 and 7

    private static void startFromAnySet() {
        sentence = "promise 6: the set becomes the root alone";
        TreePaths x = treeWithSets();
        x.start();
        dueSet("start from {2, 8}", x, 0);
        x.start();
        dueSet("start from the root alone", x, 0);
        empty(x);
        x.start();
        dueSet("start from an empty set", x, 0);
        dueKept("start", x, 0, 1, 3, 5, 7);
        dueKept("start", x, 1, 2, 4, 6, 8);
        TreePaths full = textsOf(48);
        full.step(9, 10, 0);
        full.start();
        dueSet("start from 48 nodes", full, 0);
        TreePaths inside = tree();
        inside.start();
        due("close() after start: 6 is still open", inside.close(), 0);
        due("close()", inside.close(), 0);
        due("close()", inside.close(), -1);
    }

    private static void placesAboveZero() {
        sentence = "promise 7: only the one with the number place if place is above 0";
        TreePaths x = textsOf(48);
        dueFrom(x, 0, 9, 10, 1, 0);
        dueFrom(x, 0, 9, 10, 2, 1);
        dueFrom(x, 0, 9, 10, 47, 46);
        dueFrom(x, 0, 9, 10, 48, 47);
        dueFrom(x, 47, 6, 10, 1, 46);
        dueFrom(x, 47, 6, 10, 46, 1);
        TreePaths y = tree();
        // Only those that pass the test are counted.
        dueFrom(y, 0, 3, 8, 1, 1);
        dueFrom(y, 0, 3, 8, 4, 7);
        dueFrom(y, 8, 8, 9, 1, 4);
    }

    private static void placesBelowZero() {
        sentence = "promise 7: only the one that has -place - 1 behind it if place is below 0";
        TreePaths x = textsOf(48);
        dueFrom(x, 0, 9, 10, -1, 47);
        dueFrom(x, 0, 9, 10, -2, 46);
        dueFrom(x, 0, 9, 10, -47, 1);
        dueFrom(x, 0, 9, 10, -48, 0);
        dueFrom(x, 47, 6, 10, -1, 1);
        dueFrom(x, 47, 6, 10, -46, 46);
        TreePaths y = tree();
        dueFrom(y, 0, 3, 8, -1, 7);
        dueFrom(y, 0, 3, 8, -4, 1);
        dueFrom(y, 8, 8, 8, -1, 1);
    }

    private static void placeZero() {
        sentence = "promise 7: all if place is 0";
        TreePaths x = tree();
        dueFrom(x, 2, 1, 10, 0, 3, 4, 6);
        dueFrom(x, 2, 1, 10, 1, 3);
        dueFrom(x, 2, 1, 10, -1, 6);
        dueFrom(x, 8, 1, 10, 0);
        TreePaths full = textsOf(48);
        due("step(9, 10, 0) of 48 nodes", full.step(9, 10, 0), 48);
    }

    private static void noneIfThereIsNoSuchPlace() {
        sentence = "promise 7: (none if there is no such one)";
        TreePaths x = tree();
        dueFrom(x, 2, 1, 10, 3, 6);
        dueFrom(x, 2, 1, 10, 4);
        dueFrom(x, 2, 1, 10, -3, 3);
        dueFrom(x, 2, 1, 10, -4);
        dueFrom(x, 8, 4, 10, 3, 0);
        dueFrom(x, 8, 4, 10, 4);
        dueFrom(x, 8, 4, 10, -3, 6);
        dueFrom(x, 8, 4, 10, -4);
        dueFrom(x, 0, 3, 7, 1);
        dueFrom(x, 0, 3, 7, -1);
        dueFrom(x, 0, 9, 10, 48);
        dueFrom(x, 0, 9, 10, -48);
        TreePaths full = textsOf(48);
        dueFrom(full, 0, 3, 10, 47, 47);
        dueFrom(full, 0, 3, 10, 48);
        dueFrom(full, 0, 3, 10, -47, 1);
        dueFrom(full, 0, 3, 10, -48);
        // From 0, 2, 4, 6 and 8 the third child is asked for: only 2 has three.
        TreePaths y = tree();
        y.step(9, 9, 0);
        due("from all elements, step(1, 10, 3)", y.step(1, 10, 3), 1);
        dueSet("from all elements, step(1, 10, 3)", y, 6);
        y.start();
        y.step(9, 9, 0);
        due("from all elements, step(1, 10, -2)", y.step(1, 10, -2), 3);
        dueSet("from all elements, step(1, 10, -2)", y, 1, 4, 7);
    }

    private static void stepFindsEachNodeOnce() {
        sentence = "promise 7: the set becomes the set of all that are found";
        TreePaths x = textsOf(48);
        x.step(1, 10, 0);
        due("47 texts, step(2, 10, 0)", x.step(2, 10, 0), 1);
        dueSet("47 texts, step(2, 10, 0)", x, 0);
        TreePaths y = chainOf(48);
        y.step(9, 10, 0);
        due("a chain, step(10, 10, 0)", y.step(10, 10, 0), 48);
        due("a chain, step(10, 10, -1)", y.step(10, 10, -1), 1);
        dueSet("a chain, step(10, 10, -1)", y, 0);
        due("a chain, step(3, 10, 0)", y.step(3, 10, 0), 47);
        due("a chain, step(3, 10, 1)", y.step(3, 10, 1), 46);
        due("node(0)", y.node(0), 2);
    }

    private static void stepFromAnEmptySet() {
        sentence = "promise 7: one step: from each node of the set (that is empty)";
        TreePaths x = tree();
        empty(x);
        for (int axis = 0; axis <= 10; axis++) {
            due("step(" + axis + ", 10, 0)", x.step(axis, 10, 0), 0);
            due("step(" + axis + ", 10, 1)", x.step(axis, 10, 1), 0);
            due("step(" + axis + ", 10, -1)", x.step(axis, 10, -1), 0);
        }
        dueSet("steps from nothing", x);
        due("step(11, 10, 0)", x.step(11, 10, 0), -1);
    }

    private static void stepIsRefusedForAxes() {
        sentence = "promise 7: -1, and changes nothing, if axis is not from 0 to 10";
        int[] outside = {-1, 11, 12, 16, 26, -11, MIN, MAX};
        for (int axis : outside) {
            dueRefused("step(" + axis + ", 10, 0)", BoundariesTest::treeWithSets, x -> x.step(axis, 10, 0));
            dueRefused("step(" + axis + ", 0, 1)", BoundariesTest::treeWithSets, x -> x.step(axis, 0, 1));
        }
        dueRefused("step(11, 11, 49)", BoundariesTest::treeWithSets, x -> x.step(11, 11, 49));
        due("step(0, 10, 0)", treeWithSets().step(0, 10, 0), 2);
        due("step(10, 10, 0)", treeWithSets().step(10, 10, 0), 4);
        TreePaths x = treeWithSets();
        due("step(11, 10, 0)", x.step(11, 10, 0), -1);
        due("step(-1, 10, 0)", x.step(-1, 10, 0), -1);
        dueSet("a refused step", x, 2, 8);
        dueKept("a refused step", x, 0, 1, 3, 5, 7);
        dueKept("a refused step", x, 1, 2, 4, 6, 8);
    }

    private static void stepIsRefusedForTests() {
        sentence = "promise 7: -1, and changes nothing, if test is not from 0 to 10";
        int[] outside = {-1, 11, 12, 16, 26, -11, MIN, MAX};
        for (int test : outside) {
            dueRefused("step(9, " + test + ", 0)", BoundariesTest::treeWithSets, x -> x.step(9, test, 0));
            dueRefused("step(10, " + test + ", 1)", BoundariesTest::treeWithSets, x -> x.step(10, test, 1));
        }
        due("step(10, 0, 0)", treeWithSets().step(10, 0, 0), 1);
        due("step(9, 10, 0)", treeWithSets().step(9, 10, 0), 7);
        TreePaths x = treeWithSets();
        due("step(9, 11, 0)", x.step(9, 11, 0), -1);
        due("step(9, -1, 0)", x.step(9, -1, 0), -1);
        dueSet("a refused step", x, 2, 8);
        // The set's emptiness and the tree's smallness don't make wrong arguments right.
        empty(x);
        due("step(9, 11, 0) from nothing", x.step(9, 11, 0), -1);
        due("step(9, -1, 0) with the root alone", new TreePaths().step(9, -1, 0), -1);
    }

    private static void stepIsRefusedForPlaces() {
        sentence = "promise 7: -1, and changes nothing, if place is not from -48 to 48";
        int[] outside = {49, -49, 50, -50, 64, -64, MIN, MIN + 1, MAX};
        for (int place : outside) {
            dueRefused("step(0, 10, " + place + ")", BoundariesTest::treeWithSets, x -> x.step(0, 10, place));
            dueRefused("step(9, 10, " + place + ")", BoundariesTest::fullWithSets, x -> x.step(9, 10, place));
        }
        due("step(9, 10, 48)", treeWithSets().step(9, 10, 48), 0);
        due("step(9, 10, -48)", treeWithSets().step(9, 10, -48), 0);
        due("step(9, 10, 48) of 48 nodes", textsOf(48).step(9, 10, 48), 1);
        due("step(9, 10, -48) of 48 nodes", textsOf(48).step(9, 10, -48), 1);
        TreePaths x = treeWithSets();
        due("step(0, 10, 49)", x.step(0, 10, 49), -1);
        due("step(0, 10, -49)", x.step(0, 10, -49), -1);
        dueSet("a refused step", x, 2, 8);
        empty(x);
        due("step(9, 10, 49) from nothing", x.step(9, 10, 49), -1);
        due("step(9, 10, -49) from nothing", x.step(9, 10, -49), -1);
        due("step(9, 10, 48) from nothing", x.step(9, 10, 48), 0);
    }

    // Promises 8 and 9

    private static void havingAtLeastOne() {
        sentence = "promise 8: from which the axis leads to at least one node that passes the test (wanted is true)";
        TreePaths x = tree();
        x.step(9, 10, 0);
        // 4 has one child, 0 and 6 two, 2 three; 8 and the texts none.
        due("having(1, 10, true)", x.having(1, 10, true), 4);
        dueSet("having(1, 10, true)", x, 0, 2, 4, 6);
        due("having(1, 8, true)", x.having(1, 8, true), 4);
        due("having(1, 9, true)", x.having(1, 9, true), 3);
        dueSet("having(1, 9, true)", x, 0, 2, 6);
        due("having(2, 10, true): the root has no parent", x.having(2, 10, true), 2);
        dueSet("having(2, 10, true)", x, 2, 6);
        due("having(0, 10, true)", x.having(0, 10, true), 2);
        due("having(0, 8, true)", x.having(0, 8, true), 0);
    }

    private static void havingNone() {
        sentence = "promise 8: or to none (false)";
        TreePaths x = tree();
        x.step(9, 10, 0);
        due("having(1, 10, false)", x.having(1, 10, false), 5);
        dueSet("having(1, 10, false)", x, 1, 3, 5, 7, 8);
        due("having(6, 10, false)", x.having(6, 10, false), 4);
        dueSet("having(6, 10, false): first children", x, 1, 3, 5, 7);
    }

    private static void havingOfAnEmptySet() {
        sentence = "promise 8: answers how many nodes the set has then (none, if it had none)";
        TreePaths x = tree();
        empty(x);
        for (int axis = 0; axis <= 10; axis++) {
            due("having(" + axis + ", 10, true)", x.having(axis, 10, true), 0);
            due("having(" + axis + ", 10, false)", x.having(axis, 10, false), 0);
        }
        due("having(11, 10, true)", x.having(11, 10, true), -1);
        due("having(0, 11, false)", x.having(0, 11, false), -1);
        TreePaths full = textsOf(48);
        full.step(9, 10, 0);
        due("having(0, 10, true) of 48 nodes", full.having(0, 10, true), 48);
    }

    private static void havingIsRefusedAsStep() {
        sentence = "promise 8: -1 as in step (and changes nothing, if axis or test is not from 0 to 10)";
        int[] outside = {-1, 11, 12, 16, 26, -11, MIN, MAX};
        boolean[] both = {true, false};
        for (int number : outside) {
            for (boolean wanted : both) {
                String rest = ", " + wanted + ")";
                dueRefused("having(" + number + ", 10" + rest, BoundariesTest::treeWithSets,
                        x -> x.having(number, 10, wanted));
                dueRefused("having(1, " + number + rest, BoundariesTest::treeWithSets,
                        x -> x.having(1, number, wanted));
                dueRefused("having(" + number + ", " + number + rest, BoundariesTest::treeWithSets,
                        x -> x.having(number, number, wanted));
            }
        }
        dueRefused("having(11, 10, true)", BoundariesTest::fullWithSets, x -> x.having(11, 10, true));
        dueRefused("having(1, 11, false)", BoundariesTest::fullWithSets, x -> x.having(1, 11, false));
        dueRefused("having(-1, 10, true)", TreePaths::new, x -> x.having(-1, 10, true));
        due("having(0, 10, true)", treeWithSets().having(0, 10, true), 2);
        due("having(10, 10, true)", treeWithSets().having(10, 10, true), 2);
        due("having(10, 10, false)", treeWithSets().having(10, 10, false), 0);
        due("having(10, 0, true)", treeWithSets().having(10, 0, true), 2);
        due("having(0, 0, false)", treeWithSets().having(0, 0, false), 2);
        TreePaths x = treeWithSets();
        due("having(11, 10, false)", x.having(11, 10, false), -1);
        due("having(1, -1, true)", x.having(1, -1, true), -1);
        dueSet("a refused having", x, 2, 8);
        dueKept("a refused having", x, 0, 1, 3, 5, 7);
        dueKept("a refused having", x, 1, 2, 4, 6, 8);
    }

    /** One text with the value: whether valued lets it and the root above it stay. */
    private static void dueValued(int value, int low, int high, boolean stays) {
        TreePaths x = new TreePaths();
        x.text(value);
        x.step(9, 10, 0);
        due("with " + value + ", valued(" + low + ", " + high + ")", x.valued(low, high), stays ? 2 : 0);
    }

    private static void valuedFromLowToHigh() {
        sentence = "promise 9: the texts with a value from low to high";
        int[] middles = {0, 10, -10, 1000000};
        for (int low : middles) {
            int high = low + 5;
            dueValued(low - 1, low, high, false);
            dueValued(low, low, high, true);
            dueValued(low + 1, low, high, true);
            dueValued(high - 1, low, high, true);
            dueValued(high, low, high, true);
            dueValued(high + 1, low, high, false);
            dueValued(low - 1, low, low, false);
            dueValued(low, low, low, true);
            dueValued(low + 1, low, low, false);
        }
    }

    private static void valuedAtTheEndsOfInt() {
        sentence = "promise 9: a value from low to high (at the ends of int)";
        int[] values = {MIN, MIN + 1, -1, 0, 1, MAX - 1, MAX};
        for (int value : values) {
            dueValued(value, MIN, MAX, true);
            dueValued(value, MIN, MAX - 1, value != MAX);
            dueValued(value, MIN + 1, MAX, value != MIN);
            dueValued(value, MIN, MIN, value == MIN);
            dueValued(value, MAX, MAX, value == MAX);
            dueValued(value, 0, MAX, value >= 0);
            dueValued(value, MIN, -1, value < 0);
        }
    }

    private static void valuedBetweenNothing() {
        sentence = "promise 9: a value from low to high (low above high)";
        dueValued(5, 5, 5, true);
        dueValued(5, 6, 5, false);
        dueValued(5, 5, 4, false);
        dueValued(5, 6, 4, false);
        int[] values = {MIN, -1, 0, 1, MAX};
        for (int value : values) {
            dueValued(value, MAX, MIN, false);
            dueValued(value, 1, 0, false);
        }
    }

    private static void valuedElementsWithATextBelow() {
        sentence = "promise 9: and the elements that have such a text below them";
        TreePaths x = tree();
        x.step(9, 10, 0);
        due("valued(30, 30)", x.valued(30, 30), 4);
        dueSet("valued(30, 30)", x, 0, 2, 4, 5);
        TreePaths y = tree();
        y.step(9, 9, 0);
        due("valued(MIN, MAX) of elements: 8 has nothing below", y.valued(MIN, MAX), 4);
        dueSet("valued(MIN, MAX) of elements", y, 0, 2, 4, 6);
        due("valued(10, 10): 1 is not in the set, but below the root", y.valued(10, 10), 1);
        dueSet("valued(10, 10)", y, 0);
        // Names are no values, and an element has none.
        TreePaths z = chainOf(9);
        z.step(9, 10, 0);
        due("valued(MIN, MAX) of elements alone", z.valued(MIN, MAX), 0);
        TreePaths deep = chainOf(47);
        deep.text(5);
        deep.step(9, 10, 0);
        due("valued(5, 5) in a chain", deep.valued(5, 5), 48);
        due("valued(6, 6) in a chain", deep.valued(6, 6), 0);
    }

    private static void valuedOfAnEmptySet() {
        sentence = "promise 9: answers how many nodes the set has then (none, if it had none)";
        TreePaths x = treeWithSets();
        empty(x);
        due("valued(MIN, MAX)", x.valued(MIN, MAX), 0);
        dueSet("valued of nothing", x);
        dueKept("valued", x, 0, 1, 3, 5, 7);
        TreePaths full = textsOf(48);
        full.step(9, 10, 0);
        due("valued(1, 47) of 48 nodes", full.valued(1, 47), 48);
        due("valued(2, 47)", full.valued(2, 47), 47);
    }

    // Promises 10 and 11

    private static final int[] SLOTS_0 = {0, 2, -2, 4, 100, -100, MIN, MAX - 1};
    private static final int[] SLOTS_1 = {1, -1, 3, -3, 101, -101, MIN + 1, MAX};

    private static void keepMasksTheSlot() {
        sentence = "promise 10: the kept set slot & 1 becomes the set";
        for (int slot : SLOTS_0) {
            TreePaths x = treeWithSets();
            x.keep(slot);
            dueSet("keep(" + slot + ")", x, 2, 8);
            dueKept("keep(" + slot + ")", x, 0, 2, 8);
            dueKept("keep(" + slot + ")", x, 1, 2, 4, 6, 8);
        }
        for (int slot : SLOTS_1) {
            TreePaths x = treeWithSets();
            x.keep(slot);
            dueSet("keep(" + slot + ")", x, 2, 8);
            dueKept("keep(" + slot + ")", x, 0, 1, 3, 5, 7);
            dueKept("keep(" + slot + ")", x, 1, 2, 8);
        }
    }

    private static void keepAnEmptySet() {
        sentence = "promise 10: the kept set becomes the set (that is empty, or is all nodes)";
        TreePaths x = treeWithSets();
        empty(x);
        x.keep(0);
        dueKept("keep(0)", x, 0);
        dueKept("keep(0)", x, 1, 2, 4, 6, 8);
        x.start();
        x.step(9, 10, 0);
        x.keep(1);
        x.start();
        // What is kept stays as it was when the set goes on.
        dueKept("keep(1)", x, 1, 0, 1, 2, 3, 4, 5, 6, 7, 8);
        dueKept("keep(1)", x, 0);
    }

    private static void mixMasksTheSlot() {
        sentence = "promise 11: the kept set slot & 1";
        for (int slot : SLOTS_0) {
            TreePaths x = treeWithSets();
            due("mix(" + slot + ", 1)", x.mix(slot, 1), 6);
            dueSet("mix(" + slot + ", 1)", x, 1, 2, 3, 5, 7, 8);
        }
        for (int slot : SLOTS_1) {
            TreePaths x = treeWithSets();
            due("mix(" + slot + ", 1)", x.mix(slot, 1), 4);
            dueSet("mix(" + slot + ", 1)", x, 2, 4, 6, 8);
        }
    }

    private static void mixWithEmptySets() {
        sentence = "promise 11: in common, both together, or what it has and that one has not (one of them empty)";
        TreePaths x = tree();
        due("mix(0, 2) with an empty kept set", x.mix(0, 2), 1);
        due("mix(0, 1) with an empty kept set", x.mix(0, 1), 1);
        dueSet("mix with an empty kept set", x, 0);
        due("mix(0, 0) with an empty kept set", x.mix(0, 0), 0);
        TreePaths y = treeWithSets();
        empty(y);
        due("mix(0, 0) of an empty set", y.mix(0, 0), 0);
        due("mix(0, 2) of an empty set", y.mix(0, 2), 0);
        due("mix(0, 1) of an empty set", y.mix(0, 1), 4);
        due("mix(0, 0) with itself", y.mix(0, 0), 4);
        due("mix(0, 1) with itself", y.mix(0, 1), 4);
        due("mix(0, 2) with itself", y.mix(0, 2), 0);
        dueKept("mix", y, 0, 1, 3, 5, 7);
        dueKept("mix", y, 1, 2, 4, 6, 8);
    }

    private static void mixIsRefusedForKinds() {
        sentence = "promise 11: -1, and changes nothing, if kind is not from 0 to 2";
        int[] outside = {-1, 3, 4, 5, -2, 256, MIN, MIN + 1, MAX};
        for (int kind : outside) {
            for (int slot = -1; slot <= 2; slot++) {
                int of = slot;
                dueRefused("mix(" + slot + ", " + kind + ")", BoundariesTest::treeWithSets, x -> x.mix(of, kind));
            }
        }
        dueRefused("mix(0, 3)", BoundariesTest::fullWithSets, x -> x.mix(0, 3));
        dueRefused("mix(1, -1)", BoundariesTest::fullWithSets, x -> x.mix(1, -1));
        dueRefused("mix(0, 3)", TreePaths::new, x -> x.mix(0, 3));
        due("mix(1, 0)", treeWithSets().mix(1, 0), 2);
        due("mix(0, 0)", treeWithSets().mix(0, 0), 0);
        due("mix(1, 2)", treeWithSets().mix(1, 2), 0);
        due("mix(0, 2)", treeWithSets().mix(0, 2), 2);
        TreePaths x = treeWithSets();
        due("mix(0, 3)", x.mix(0, 3), -1);
        due("mix(1, -1)", x.mix(1, -1), -1);
        dueSet("a refused mix", x, 2, 8);
        dueKept("a refused mix", x, 0, 1, 3, 5, 7);
        dueKept("a refused mix", x, 1, 2, 4, 6, 8);
        empty(x);
        due("mix(0, 3) of an empty set", x.mix(0, 3), -1);
        due("mix(0, -1) with empty kept sets", new TreePaths().mix(0, -1), -1);
    }

    // Promises 12 and 13

    private static void nodeFromIndex0() {
        sentence = "promise 12: the node of the set that has so many nodes of it with lesser numbers (index from 0)";
        TreePaths x = treeWithSets();
        due("node(0)", x.node(0), 2);
        due("node(1)", x.node(1), 8);
        due("node(0) once more", x.node(0), 2);
        TreePaths full = textsOf(48);
        full.step(9, 10, 0);
        for (int index = 0; index < 48; index++) {
            due("node(" + index + ") of 48", full.node(index), index);
        }
        full.step(3, 10, 0);
        due("node(0) without the root", full.node(0), 1);
        due("node(46) without the root", full.node(46), 47);
    }

    private static void nodeIsRefusedIfThereIsNone() {
        sentence = "promise 12: -1 if there is none";
        int[] outside = {2, 3, 47, 48, 63, 64, -1, -2, MIN, MAX};
        for (int index : outside) {
            dueRefused("node(" + index + ")", BoundariesTest::treeWithSets, x -> x.node(index));
        }
        TreePaths full = textsOf(48);
        due("node(1) of the root alone", full.node(1), -1);
        full.step(9, 10, 0);
        due("node(48) of 48", full.node(48), -1);
        due("node(-1) of 48", full.node(-1), -1);
        due("node(47) of 48", full.node(47), 47);
        empty(full);
        due("node(0) of nothing", full.node(0), -1);
        due("node(-1) of nothing", full.node(-1), -1);
    }

    private static void dueSum(int want, int... values) {
        TreePaths x = new TreePaths();
        for (int value : values) {
            x.text(value);
        }
        x.step(9, 10, 0);
        due("sum() of " + values.length + " texts", x.sum(), want);
        due("sum() once more", x.sum(), want);
    }

    private static void sumWraps() {
        sentence = "promise 13: the sum (wrapping)";
        dueSum(MAX, MAX - 1, 1);
        dueSum(MIN, MAX, 1);
        dueSum(MIN + 1, MAX, 2);
        dueSum(MIN, MIN + 1, -1);
        dueSum(MAX, MIN, -1);
        dueSum(MAX - 1, MIN, -2);
        dueSum(-2, MAX, MAX);
        dueSum(0, MIN, MIN);
        dueSum(-1, MIN, MAX);
        // There and back again: only the end counts.
        dueSum(MAX, MAX, 1, -1);
        dueSum(MIN, MIN, -1, 1);
        int[] greatest = new int[47];
        int[] least = new int[47];
        for (int i = 0; i < 47; i++) {
            greatest[i] = MAX;
            least[i] = MIN;
        }
        // 47 * (2^31 - 1) and 47 * -2^31, less the whole turns of 2^32.
        dueSum(MAX - 46, greatest);
        dueSum(MIN, least);
    }

    private static void sumOfTextsAlone() {
        sentence = "promise 13: of the values of all texts of the set";
        TreePaths x = treeWithSets();
        due("sum() of elements alone", x.sum(), 0);
        empty(x);
        due("sum() of nothing", x.sum(), 0);
        x.start();
        due("sum() of the root", x.sum(), 0);
        x.step(9, 10, 0);
        due("sum() of all", x.sum(), 10 - 20 + 30 + 40);
        x.step(0, 8, 0);
        due("sum() of the texts", x.sum(), 10 - 20 + 30 + 40);
        stand(x, 3);
        due("sum() of one text", x.sum(), -20);
    }
}
