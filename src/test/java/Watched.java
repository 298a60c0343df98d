/** An object of the class that is used for no more calls than the document says. */
final class Watched {
    static final int MOST_CALLS = 512;

    private final FlowMixer mixer = new FlowMixer();
    private int calls = 0;

    private FlowMixer used() {
        calls++;
        if (calls > MOST_CALLS) {
            throw new AssertionError("this test uses an object for more than " + MOST_CALLS + " calls");
        }
        return mixer;
    }

    int callsLeft() {
        return MOST_CALLS - calls;
    }

    int node(int kind, int a, int b) {
        return used().node(kind, a, b);
    }

    int assign(int block, int variable, int node) {
        return used().assign(block, variable, node);
    }

    void jump(int block, int kind, int node, int one, int other) {
        used().jump(block, kind, node, one, other);
    }

    int clear(int block) {
        return used().clear(block);
    }

    int input(int variable, int v) {
        return used().input(variable, v);
    }

    boolean run(int n) {
        return used().run(n);
    }

    boolean follow(int n) {
        return used().follow(n);
    }

    int result(int what) {
        return used().result(what);
    }

    int divide(int known) {
        return used().divide(known);
    }

    int live(int block) {
        return used().live(block);
    }

    int mix(int known) {
        return used().mix(known);
    }

    int compress() {
        return used().compress();
    }

    int about(int block, int what) {
        return used().about(block, what);
    }

    int sign(int i) {
        return used().sign(i);
    }

    int count(int what) {
        return used().count(what);
    }

    int number(int value) {
        return node(0, value, 0);
    }

    int variable(char letter) {
        return node(1, letter - 'a', 0);
    }

    void go(int block, int to) {
        jump(block, 0, 0, to, 0);
    }

    void either(int block, int node, int one, int other) {
        jump(block, 1, node, one, other);
    }

    void giveBack(int block, int node) {
        jump(block, 2, node, 0, 0);
    }

    /** What a node comes to with the present inputs; block 0 is used for it. */
    int valueOf(int node) {
        clear(0);
        giveBack(0, node);
        run(1);
        return result(0);
    }

    /** A chain of pluses of that many leaves, all the same node. */
    int chain(int leaf, int leaves) {
        int node = leaf;
        for (int i = 1; i < leaves; i++) {
            node = node(2, node, leaf);
        }
        return node;
    }

    /** Block 0 counts h up by 1 till it is that much, then goes to block 1. */
    void countUp(int limit) {
        int h = variable('h');
        assign(0, 7, node(2, h, number(1)));
        either(0, node(6, h, number(limit)), 0, 1);
    }

    String text() {
        StringBuilder text = new StringBuilder();
        int length = count(2);
        for (int i = 0; i < length; i++) {
            text.append((char) sign(i));
        }
        return text.toString();
    }
}
