import java.util.List;
import java.util.NoSuchElementException;
import java.util.function.Consumer;
import java.util.function.Function;
import java.util.function.Supplier;

/**
 * "EXCEPTIONS": each one that a method can throw, which one comes first where two are due, and that
 * the call that was refused changed nothing: an object that it was made on shows what its twin shows.
 */
public final class RefusedTest {
    private static final int LOWEST = Integer.MIN_VALUE;
    private static final int HIGHEST = Integer.MAX_VALUE;
    private static final Class<?> MISSING = NoSuchElementException.class;
    private static final Class<?> ARGUMENT = IllegalArgumentException.class;
    private static final Class<?> STATE = IllegalStateException.class;

    // What is looked at, in parts, so that no object is used for too many calls.
    private static final List<Function<Watched, String>> LOOKS = List.of(
            RefusedTest::residualText, RefusedTest::results, RefusedTest::program, RefusedTest::inputsAndNodes);

    private static final int NODES = 14;
    private static final int FULL_BLOCK = 3;
    private static final int ALL_BUT_AEF = 206;

    private RefusedTest() {
    }

    public static void main(String[] args) {
        looksTellChanges();
        node();
        nodeWithoutNodes();
        nodeTooLarge();
        nodeTooMany();
        assign();
        assignToAFullBlock();
        jump();
        clearAndLive();
        input();
        run();
        follow();
        followNone();
        result();
        divideAndMix();
        compressNone();
        about();
        aboutNone();
        sign();
        count();
        Checks.end();
    }

    /** All blocks are come to, block 3 is full; variables are nodes 0 to 7. */
    private static Watched filled() {
        Watched x = new Watched();
        for (int v = 0; v < 8; v++) {
            x.node(1, v, 0);
            x.input(v, 10 - 3 * v);
        }
        x.number(LOWEST);
        x.number(1);
        x.node(2, 0, 9);
        x.node(3, 7, 9);
        x.node(4, 1, 2);
        x.node(6, 3, 8);
        for (int block = 0; block < 15; block++) {
            x.assign(block, block % 8, 10 + block % 4);
            x.either(block, block % 8, block + 1, (block + 2) % 16);
        }
        for (int i = 1; i < 10; i++) {
            x.assign(FULL_BLOCK, i % 8, i);
        }
        x.giveBack(15, 10);
        return x;
    }

    /** The same with a residual program, compressed, that was followed to its end. */
    private static Watched mixed() {
        Watched x = filled();
        x.mix(ALL_BUT_AEF);
        x.compress();
        x.follow(5000);
        return x;
    }

    /** 150 nodes, the greatest of size 59. */
    private static Watched full() {
        Watched x = new Watched();
        x.number(1);
        x.chain(0, 30);
        for (int i = 30; i < 150; i++) {
            x.number(i);
        }
        x.giveBack(0, 149);
        x.mix(0);
        x.run(1);
        return x;
    }

    private static Watched fresh() {
        return new Watched();
    }

    private static String residualText(Watched x) {
        return x.count(1) + " " + x.text();
    }

    private static String results(Watched x) {
        StringBuilder shown = new StringBuilder();
        for (int what = 0; what < 4; what++) {
            shown.append(x.count(what)).append(' ');
        }
        threeResults(x, shown);
        for (int block = 0; block < x.count(1); block++) {
            for (int what = 0; what < 5; what++) {
                shown.append(x.about(block, what)).append(' ');
            }
        }
        if (x.count(1) > 0) {
            shown.append(x.follow(5000));
            threeResults(x, shown);
            shown.append(x.compress());
        }
        return shown.append(x.run(5000)).append(x.result(0)).toString();
    }

    private static void threeResults(Watched x, StringBuilder shown) {
        for (int what = 0; what < 3; what++) {
            shown.append(' ').append(x.result(what));
        }
    }

    private static String program(Watched x) {
        StringBuilder shown = new StringBuilder();
        for (int block = 0; block < 16; block++) {
            shown.append(x.live(block)).append(' ');
        }
        for (int v = 0; v < 8; v++) {
            shown.append(x.divide(255 - (1 << v))).append(' ');
        }
        shown.append(x.mix(0)).append(' ');
        return shown.append(residualText(x)).toString();
    }

    private static String inputsAndNodes(Watched x) {
        StringBuilder shown = new StringBuilder();
        int nodes = x.count(0);
        for (int node = 0; node < nodes; node++) {
            // The numbers in the middle of very many are left out.
            if (node < 50 || node > 140) {
                shown.append(x.valueOf(node)).append(' ');
            }
        }
        for (int v = 0; v < 8; v++) {
            shown.append(x.input(v, 0)).append(' ');
        }
        for (int block = 0; block < 16; block++) {
            shown.append(x.clear(block)).append(' ');
        }
        return shown.append(nodes < 150 ? x.number(0) : -1).toString();
    }

    private static void refused(String what, Class<?> want, Supplier<Watched> made, Consumer<Watched> call) {
        for (Function<Watched, String> look : LOOKS) {
            Watched x = made.get();
            Checks.thrown(what, () -> call.accept(x), want);
            Checks.due(what + " changed nothing", look.apply(x), look.apply(made.get()));
        }
    }

    /** A test of the looks themselves: each small change is seen by one of them. */
    private static void looksTellChanges() {
        List<Consumer<Watched>> changes = List.of(
                x -> x.number(5), x -> x.assign(15, 7, 7), x -> x.go(7, 8), x -> x.either(14, 6, 15, 1),
                x -> x.giveBack(15, 6), x -> x.clear(14), x -> x.input(7, 1), x -> x.run(3), x -> x.follow(0),
                x -> x.mix(0), x -> x.mix(64));
        for (Consumer<Watched> change : changes) {
            boolean seen = false;
            for (Function<Watched, String> look : LOOKS) {
                Watched x = mixed();
                change.accept(x);
                seen = seen || !look.apply(x).equals(look.apply(mixed()));
            }
            Checks.due("change " + changes.indexOf(change) + " is seen", seen, true);
        }
    }

    private static void node() {
        for (int kind : new int[] {-1, 7, LOWEST, HIGHEST}) {
            refused("node of kind " + kind, MISSING, RefusedTest::mixed, x -> x.node(kind, 0, 0));
        }
        for (int variable : new int[] {-1, 8, LOWEST, HIGHEST}) {
            refused("node of variable " + variable, MISSING, RefusedTest::mixed, x -> x.node(1, variable, 0));
        }
        for (int kind = 2; kind <= 6; kind++) {
            int k = kind;
            for (int node : new int[] {-1, NODES, LOWEST, HIGHEST}) {
                refused("node of kind " + k + ", a " + node, MISSING, RefusedTest::mixed, x -> x.node(k, node, 0));
                refused("node of kind " + k + ", b " + node, MISSING, RefusedTest::mixed, x -> x.node(k, 0, node));
            }
        }
    }

    private static void nodeWithoutNodes() {
        for (int kind = 2; kind <= 6; kind++) {
            int k = kind;
            refused("node of kind " + k + " without nodes", MISSING, RefusedTest::fresh, x -> x.node(k, 0, 0));
        }
    }

    private static Watched large() {
        Watched x = filled();
        x.chain(0, 30);
        return x;
    }

    private static void nodeTooLarge() {
        int greatest = NODES + 28;
        refused("size 61", STATE, RefusedTest::large, x -> x.node(2, greatest, 0));
        refused("size 61, to the right", STATE, RefusedTest::large, x -> x.node(6, 0, greatest));
        refused("size 119", STATE, RefusedTest::large, x -> x.node(4, greatest, greatest));
        refused("no such b, first", MISSING, RefusedTest::large, x -> x.node(2, greatest, greatest + 1));
        refused("no such a, first", MISSING, RefusedTest::large, x -> x.node(2, -1, greatest));
        refused("no such kind, first", MISSING, RefusedTest::large, x -> x.node(7, greatest, greatest));
    }

    private static void nodeTooMany() {
        for (int kind = 0; kind <= 6; kind++) {
            int k = kind;
            refused("151 nodes, kind " + k, STATE, RefusedTest::full, x -> x.node(k, 0, 0));
        }
        refused("151 nodes and size 61", STATE, RefusedTest::full, x -> x.node(2, 29, 29));
        refused("no such kind ahead of 151 nodes", MISSING, RefusedTest::full, x -> x.node(7, 0, 0));
        refused("no kind -1 ahead of 151 nodes", MISSING, RefusedTest::full, x -> x.node(-1, 0, 0));
        refused("no such variable ahead of 151 nodes", MISSING, RefusedTest::full, x -> x.node(1, 8, 0));
        refused("no such a ahead of 151 nodes", MISSING, RefusedTest::full, x -> x.node(2, 150, 0));
        refused("no such b ahead of 151 nodes", MISSING, RefusedTest::full, x -> x.node(2, 0, 150));
        refused("node 150 is not assigned", MISSING, RefusedTest::full, x -> x.assign(0, 0, 150));
        refused("node 150 is in no IF", MISSING, RefusedTest::full, x -> x.either(0, 150, 0, 0));
        refused("node 150 is not returned", MISSING, RefusedTest::full, x -> x.giveBack(0, 150));
    }

    private static void assign() {
        for (int block : new int[] {-1, 16, LOWEST, HIGHEST}) {
            refused("assign in block " + block, MISSING, RefusedTest::mixed, x -> x.assign(block, 0, 0));
        }
        for (int variable : new int[] {-1, 8, LOWEST, HIGHEST}) {
            refused("assign to " + variable, MISSING, RefusedTest::mixed, x -> x.assign(0, variable, 0));
        }
        for (int node : new int[] {-1, NODES, LOWEST, HIGHEST}) {
            refused("assign of node " + node, MISSING, RefusedTest::mixed, x -> x.assign(0, 0, node));
        }
        refused("assign without nodes", MISSING, RefusedTest::fresh, x -> x.assign(0, 0, 0));
    }

    private static void assignToAFullBlock() {
        refused("an eleventh", STATE, RefusedTest::mixed, x -> x.assign(FULL_BLOCK, 7, 7));
        refused("no such variable ahead of ten", MISSING, RefusedTest::mixed, x -> x.assign(FULL_BLOCK, 8, 0));
        refused("no variable -1 ahead of ten", MISSING, RefusedTest::mixed, x -> x.assign(FULL_BLOCK, -1, 0));
        refused("no such node ahead of ten", MISSING, RefusedTest::mixed, x -> x.assign(FULL_BLOCK, 0, NODES));
        refused("no node -1 ahead of ten", MISSING, RefusedTest::mixed, x -> x.assign(FULL_BLOCK, 0, -1));
    }

    private static void jump() {
        for (int wrong : new int[] {-1, 16, LOWEST, HIGHEST}) {
            for (int kind = 0; kind <= 2; kind++) {
                int k = kind;
                refused("jump of block " + wrong, MISSING, RefusedTest::mixed, x -> x.jump(wrong, k, 0, 0, 0));
            }
            refused("GO to " + wrong, MISSING, RefusedTest::mixed, x -> x.jump(15, 0, 0, wrong, 0));
            refused("IF to " + wrong, MISSING, RefusedTest::mixed, x -> x.jump(15, 1, 0, wrong, 0));
            refused("IF else to " + wrong, MISSING, RefusedTest::mixed, x -> x.jump(15, 1, 0, 0, wrong));
        }
        for (int kind : new int[] {-1, 3, LOWEST, HIGHEST}) {
            refused("jump of kind " + kind, MISSING, RefusedTest::mixed, x -> x.jump(15, kind, 0, 0, 0));
        }
        for (int node : new int[] {-1, NODES, LOWEST, HIGHEST}) {
            refused("IF of node " + node, MISSING, RefusedTest::mixed, x -> x.jump(15, 1, node, 0, 0));
            refused("RETURN of node " + node, MISSING, RefusedTest::mixed, x -> x.jump(0, 2, node, 0, 0));
        }
        refused("IF without nodes", MISSING, RefusedTest::fresh, x -> x.jump(0, 1, 0, 0, 0));
        refused("RETURN without nodes", MISSING, RefusedTest::fresh, x -> x.jump(0, 2, 0, 0, 0));
    }

    private static void clearAndLive() {
        for (int block : new int[] {-1, 16, LOWEST, HIGHEST}) {
            refused("clear " + block, MISSING, RefusedTest::mixed, x -> x.clear(block));
            refused("live " + block, MISSING, RefusedTest::mixed, x -> x.live(block));
        }
    }

    private static void input() {
        for (int variable : new int[] {-1, 8, LOWEST, HIGHEST}) {
            refused("input " + variable, MISSING, RefusedTest::mixed, x -> x.input(variable, 77));
        }
    }

    private static void run() {
        for (int n : new int[] {-1, 5001, LOWEST, HIGHEST}) {
            refused("run " + n, ARGUMENT, RefusedTest::mixed, x -> x.run(n));
            refused("run " + n + " at first", ARGUMENT, RefusedTest::fresh, x -> x.run(n));
        }
    }

    private static void follow() {
        for (int n : new int[] {-1, 5001, LOWEST, HIGHEST}) {
            refused("follow " + n, ARGUMENT, RefusedTest::mixed, x -> x.follow(n));
        }
    }

    private static void followNone() {
        for (int n : new int[] {0, 1, 5000}) {
            refused("follow " + n + " of none", STATE, RefusedTest::filled, x -> x.follow(n));
        }
        for (int n : new int[] {-1, 5001, LOWEST, HIGHEST}) {
            refused("follow " + n + " ahead of none", ARGUMENT, RefusedTest::filled, x -> x.follow(n));
        }
    }

    private static void result() {
        for (int what : new int[] {-1, 3, LOWEST, HIGHEST}) {
            refused("result " + what, ARGUMENT, RefusedTest::mixed, x -> x.result(what));
            refused("result " + what + " at first", ARGUMENT, RefusedTest::fresh, x -> x.result(what));
        }
    }

    private static void divideAndMix() {
        for (int known : new int[] {-1, 256, 257, -256, LOWEST, HIGHEST}) {
            refused("divide " + known, ARGUMENT, RefusedTest::mixed, x -> x.divide(known));
            refused("mix " + known, ARGUMENT, RefusedTest::mixed, x -> x.mix(known));
            refused("mix " + known + " at first", ARGUMENT, RefusedTest::filled, x -> x.mix(known));
        }
    }

    private static void compressNone() {
        refused("compress of none", STATE, RefusedTest::filled, x -> x.compress());
        refused("compress at first", STATE, RefusedTest::fresh, x -> x.compress());
    }

    private static void about() {
        int blocks = mixed().count(1);
        for (int block : new int[] {-1, blocks, LOWEST, HIGHEST}) {
            refused("about " + block, MISSING, RefusedTest::mixed, x -> x.about(block, 0));
            for (int what : new int[] {-1, 5}) {
                refused("about " + block + " ahead of " + what, MISSING, RefusedTest::mixed, x -> x.about(block, what));
            }
        }
        for (int what : new int[] {-1, 5, LOWEST, HIGHEST}) {
            refused("about 0, " + what, ARGUMENT, RefusedTest::mixed, x -> x.about(0, what));
            refused("about the last, " + what, ARGUMENT, RefusedTest::mixed, x -> x.about(blocks - 1, what));
        }
    }

    private static void aboutNone() {
        for (int what : new int[] {-1, 0, 4, 5}) {
            refused("about none, " + what, MISSING, RefusedTest::filled, x -> x.about(0, what));
        }
    }

    private static void sign() {
        int length = mixed().count(2);
        for (int i : new int[] {-1, length, length + 1, LOWEST, HIGHEST}) {
            refused("sign " + i, MISSING, RefusedTest::mixed, x -> x.sign(i));
        }
        refused("sign 0 of none", MISSING, RefusedTest::filled, x -> x.sign(0));
        refused("sign -1 of none", MISSING, RefusedTest::filled, x -> x.sign(-1));
    }

    private static void count() {
        for (int what : new int[] {-1, 4, LOWEST, HIGHEST}) {
            refused("count " + what, ARGUMENT, RefusedTest::mixed, x -> x.count(what));
            refused("count " + what + " at first", ARGUMENT, RefusedTest::fresh, x -> x.count(what));
        }
    }
}
