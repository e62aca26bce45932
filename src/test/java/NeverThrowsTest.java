import java.util.ArrayList;
import java.util.LinkedHashMap;
import java.util.List;
import java.util.Map;
import java.util.function.Consumer;
import java.util.function.Supplier;

/**
 * Rule 7 of LANGUAGE.md: no call throws or fails to end, for any arguments in any state. That holds after
 * the 512th call too: from there on the document leaves free what is answered, not whether.
 */
public final class NeverThrowsTest {
    private static final int MIN = Integer.MIN_VALUE;
    private static final int MAX = Integer.MAX_VALUE;
    private static final int[] NUMBERS = {MIN, MIN + 1, MIN + 7, -65, -64, -63, -49, -48, -47, -33, -32, -31, -9,
        -8, -2, -1, 0, 1, 2, 3, 7, 8, 9, 10, 11, 12, 31, 32, 33, 46, 47, 48, 49, 63, 64, 65, MAX - 7, MAX - 1, MAX};
    private static final int[] AXES = {MIN, -32, -1, 0, 1, 2, 3, 4, 5, 6, 7, 8, 9, 10, 11, 32, 42, 64, MAX};
    private static final int[] TESTS = {MIN, -32, -1, 0, 1, 7, 8, 9, 10, 11, 32, MAX};
    private static final int[] PLACES = {MIN, MIN + 1, -64, -49, -48, -47, -2, -1, 0, 1, 2, 47, 48, 49, 64, MAX};

    private static final int RUNS = 300;
    private static final int CALLS = 3000;
    private static final long MOST_MILLISECONDS = 240_000;
    private static volatile int wrong = 0;
    // A thread that dies of an exception is no longer alive either, so that alone would not tell.
    private static volatile boolean cameToItsEnd = false;

    public static void main(String[] args) throws InterruptedException {
        Thread tries = new Thread(NeverThrowsTest::tryAll);
        tries.setDaemon(true);
        tries.start();
        tries.join(MOST_MILLISECONDS);
        if (!cameToItsEnd) {
            wrong++;
            System.out.println("a call does not end, or making a state throws");
            for (StackTraceElement line : tries.getStackTrace()) {
                System.out.println("  at " + line);
            }
        }
        System.out.println(wrong == 0 ? "every call ends and none throws" : wrong + " calls throw or do not end");
        if (wrong != 0) {
            System.exit(1);
        }
    }

    private static void tryAll() {
        Map<String, Consumer<TreePaths>> calls = calls();
        for (Map.Entry<String, Supplier<TreePaths>> state : states().entrySet()) {
            for (Map.Entry<String, Consumer<TreePaths>> call : calls.entrySet()) {
                TreePaths x = state.getValue().get();
                attempt(state.getKey() + ": " + call.getKey(), x, call.getValue());
                attempt(state.getKey() + ": after " + call.getKey(), x, NeverThrowsTest::useAll);
            }
        }
        List<List<Map.Entry<String, Consumer<TreePaths>>>> methods = byMethod(calls);
        for (int run = 0; run < RUNS; run++) {
            runOn(run, methods);
        }
        cameToItsEnd = true;
    }

    private static void attempt(String what, TreePaths x, Consumer<TreePaths> call) {
        try {
            call.accept(x);
        } catch (Throwable thrown) {
            wrong++;
            if (wrong <= 20) {
                System.out.println(what + " throws " + thrown);
            }
        }
    }

    // Arguments

    private static Map<String, Consumer<TreePaths>> calls() {
        Map<String, Consumer<TreePaths>> calls = new LinkedHashMap<>();
        calls.put("close()", TreePaths::close);
        calls.put("start()", TreePaths::start);
        calls.put("sum()", TreePaths::sum);
        for (int a : NUMBERS) {
            calls.put("open(" + a + ")", x -> x.open(a));
            calls.put("text(" + a + ")", x -> x.text(a));
            calls.put("remove(" + a + ")", x -> x.remove(a));
            calls.put("keep(" + a + ")", x -> x.keep(a));
            calls.put("node(" + a + ")", x -> x.node(a));
            for (int b : NUMBERS) {
                calls.put("valued(" + a + ", " + b + ")", x -> x.valued(a, b));
                calls.put("mix(" + a + ", " + b + ")", x -> x.mix(a, b));
            }
        }
        for (int axis : AXES) {
            for (int test : TESTS) {
                String both = axis + ", " + test + ", ";
                calls.put("having(" + both + "true)", x -> x.having(axis, test, true));
                calls.put("having(" + both + "false)", x -> x.having(axis, test, false));
                for (int place : PLACES) {
                    calls.put("step(" + both + place + ")", x -> x.step(axis, test, place));
                }
            }
        }
        return calls;
    }

    // States

    private static Map<String, Supplier<TreePaths>> states() {
        Map<String, Supplier<TreePaths>> states = new LinkedHashMap<>();
        states.put("a new object", TreePaths::new);
        states.put("an empty set", () -> emptied(new TreePaths()));
        states.put("some nodes", () -> branches(3));
        states.put("some nodes, all in the sets", () -> withSets(branches(3)));
        states.put("47 nodes", () -> chain(46));
        states.put("48 nodes in a chain", () -> chain(47));
        states.put("48 nodes in a chain, all in the sets", () -> withSets(chain(47)));
        states.put("48 nodes in a chain, the root open", () -> withSets(closed(chain(47))));
        states.put("48 nodes in a row", () -> withSets(row()));
        states.put("48 nodes in branches", () -> withSets(branches(60)));
        states.put("48 nodes, an empty set", () -> emptied(branches(60)));
        states.put("the root alone after 48 nodes", () -> withSets(pruned(closed(branches(60)))));
        states.put("what is left after 48 nodes", () -> withSets(pruned(branches(60))));
        states.put("after 512 calls", () -> worn(branches(60)));
        return states;
    }

    private static TreePaths chain(int below) {
        TreePaths x = new TreePaths();
        for (int i = 0; i < below; i++) {
            x.open(i);
        }
        return x;
    }

    private static TreePaths row() {
        TreePaths x = new TreePaths();
        for (int i = 0; i < 47; i++) {
            x.text(i % 2 == 0 ? MAX : MIN);
        }
        return x;
    }

    private static TreePaths branches(int many) {
        TreePaths x = new TreePaths();
        for (int i = 0; i < many; i++) {
            x.open(i);
            x.text(i);
            x.open(i + 1);
            x.close();
            if (i % 3 == 0) {
                x.close();
            }
        }
        return x;
    }

    private static TreePaths closed(TreePaths x) {
        for (int i = 0; i < 48; i++) {
            x.close();
        }
        return x;
    }

    private static TreePaths pruned(TreePaths x) {
        for (int node = 47; node > 0; node--) {
            x.remove(node);
        }
        return x;
    }

    private static TreePaths emptied(TreePaths x) {
        x.mix(0, 0);
        return x;
    }

    private static TreePaths withSets(TreePaths x) {
        x.step(9, 8, 0);
        x.keep(1);
        x.start();
        x.step(9, 10, 0);
        x.keep(0);
        return x;
    }

    private static TreePaths worn(TreePaths x) {
        for (int i = 0; i < 520; i++) {
            x.node(i);
        }
        return x;
    }

    /** Goes into each part of the state, so that one left broken shows. */
    private static void useAll(TreePaths x) {
        x.sum();
        x.node(47);
        x.mix(1, 1);
        x.mix(0, 1);
        x.step(8, 10, -1);
        x.start();
        x.step(9, 10, 0);
        x.having(4, 9, true);
        x.valued(-1, 1);
        x.close();
        x.remove(2);
        x.open(1);
        x.text(1);
    }

    // Runs

    /** Each method comes up as often as the others, however many arguments there are to try with it. */
    private static List<List<Map.Entry<String, Consumer<TreePaths>>>> byMethod(
            Map<String, Consumer<TreePaths>> calls) {
        Map<String, List<Map.Entry<String, Consumer<TreePaths>>>> methods = new LinkedHashMap<>();
        for (Map.Entry<String, Consumer<TreePaths>> call : calls.entrySet()) {
            String name = call.getKey().substring(0, call.getKey().indexOf('('));
            methods.computeIfAbsent(name, first -> new ArrayList<>()).add(call);
        }
        return new ArrayList<>(methods.values());
    }

    /** A fixed row of calls far beyond the 512th; a call that adds comes often enough to keep a tree there. */
    private static void runOn(int run, List<List<Map.Entry<String, Consumer<TreePaths>>>> methods) {
        TreePaths x = new TreePaths();
        long state = run;
        int adding = 1 + run % 7;
        for (int call = 0; call < CALLS; call++) {
            state = state * 6364136223846793005L + 1442695040888963407L;
            int drawn = (int) (state >>> 33);
            int kind = drawn % 16;
            int rest = drawn / 16;
            String what = "run " + run + ", call " + call + ": ";
            if (kind < adding) {
                attempt(what + "open or text", x, kind % 2 == 0 ? y -> y.open(drawn) : y -> y.text(drawn));
            } else if (kind < adding + 2) {
                attempt(what + "remove", x, y -> y.remove(rest % 49));
            } else if (kind < adding + 4) {
                attempt(what + "step", x, y -> y.step(rest % 11, 10, 0));
            } else {
                List<Map.Entry<String, Consumer<TreePaths>>> method = methods.get(rest % methods.size());
                Map.Entry<String, Consumer<TreePaths>> other = method.get(rest / methods.size() % method.size());
                attempt(what + other.getKey(), x, other.getValue());
            }
        }
    }
}
