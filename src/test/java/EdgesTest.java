/** The boundary cases that promises 1 to 16 name, each sentence in a test of its own. */
public final class EdgesTest {
    private static final int LOWEST = Integer.MIN_VALUE;
    private static final int HIGHEST = Integer.MAX_VALUE;
    private static final int NONE = FlowMixer.NONE;

    private EdgesTest() {
    }

    public static void main(String[] args) {
        none();
        newHasNoNodes();
        newBlocksReturn0();
        newHasNoResidualProgram();
        newHasNothingRun();
        newObjectsAreApart();
        nodeNumber();
        nodeVariable();
        nodeOfNodes();
        nodesAre150();
        assignBehindTheOthers();
        jumpLooksAtWhatItNeeds();
        jumpInPlaceOfTheOne();
        clearAsAtFirst();
        clearLeavesOthers();
        inputWasAndIs();
        runAtMostSoManySteps();
        runFrom0To5000();
        followWithThePresentInputs();
        followFrom0To5000();
        followSoManySteps();
        resultOfTheLatest();
        resultReturned();
        resultBlock();
        divideFrom0To255();
        divideIsOfNow();
        liveIsOfNow();
        mixFrom0To255();
        mixNoneLeavesWhatWasThere();
        mixStaysAsItWas();
        compressHowManyAreLeft();
        aboutFirstAndLast();
        aboutEachKind();
        signFirstAndLast();
        signAmongTheFirst3000();
        signIsOfNow();
        countNodes();
        countResidualBlocks();
        countLength();
        countGreatest();
        Checks.end();
    }

    private static void none() {
        Checks.due("NONE", NONE, -1);
    }

    /** Promise 1: "No nodes". */
    private static void newHasNoNodes() {
        Watched x = new Watched();
        Checks.due("nodes", x.count(0), 0);
        Checks.due("greatest size", x.count(3), 0);
        Checks.missing("assign", () -> x.assign(0, 0, 0));
        Checks.missing("IF", () -> x.either(0, 0, 0, 0));
        Checks.missing("RETURN", () -> x.giveBack(0, 0));
        Checks.missing("PLUS", () -> x.node(2, 0, 0));
        Checks.due("the first one", x.number(1), 0);
    }

    /** Promise 1: "all blocks return 0, inputs 0". */
    private static void newBlocksReturn0() {
        Watched x = new Watched();
        for (int v = 0; v < 8; v++) {
            Checks.due("input " + v, x.input(v, 0), 0);
        }
        for (int block = 0; block < 16; block++) {
            Checks.due("live " + block, x.live(block), 0);
            x.go(0, block);
            Checks.due("block " + block, x.run(2), block != 0);
            Checks.due("block " + block + " returns", x.result(0), 0);
            x.clear(0);
        }
        Checks.due("block 0", x.run(1), true);
        Checks.due("block 0 returns", x.result(0), 0);
    }

    /** Promise 1: "no residual program". */
    private static void newHasNoResidualProgram() {
        Watched x = new Watched();
        Checks.due("residual blocks", x.count(1), 0);
        Checks.due("text", x.count(2), 0);
        Checks.state("follow", () -> x.follow(0));
        Checks.state("compress", () -> x.compress());
        Checks.missing("about", () -> x.about(0, 0));
        Checks.missing("sign", () -> x.sign(0));
    }

    /** Promise 1: "nothing run". */
    private static void newHasNothingRun() {
        Watched x = new Watched();
        for (int what = 0; what < 3; what++) {
            Checks.due("result " + what, x.result(what), 0);
        }
    }

    private static void newObjectsAreApart() {
        Watched x = new Watched();
        Watched y = new Watched();
        x.giveBack(0, x.number(5));
        x.input(0, 5);
        x.mix(0);
        x.run(1);
        Checks.due("another object's nodes", y.count(0), 0);
        Checks.due("another object's residual program", y.count(1), 0);
        Checks.due("another object's result", y.result(0), 0);
        Checks.due("another object's input", y.input(0, 0), 0);
        y.run(1);
        Checks.due("another object's program", y.result(0), 0);
        Checks.due("a later object's nodes", new Watched().count(0), 0);
    }

    /** Promise 2: "a NUMBER a (kind 0)". */
    private static void nodeNumber() {
        for (int value : new int[] {LOWEST, -1, 0, 1, HIGHEST}) {
            for (int b : new int[] {LOWEST, -1, 0, HIGHEST}) {
                Watched x = new Watched();
                Checks.due("number " + value, x.node(0, value, b), 0);
                Checks.due("value of " + value, x.valueOf(0), value);
            }
        }
    }

    /** Promise 2: "VARIABLE a (1)". */
    private static void nodeVariable() {
        for (int v : new int[] {0, 7}) {
            for (int b : new int[] {LOWEST, -1, 0, HIGHEST}) {
                Watched x = new Watched();
                Checks.due("variable " + v, x.node(1, v, b), 0);
                x.input(v, 55);
                Checks.due("value of variable " + v, x.valueOf(0), 55);
                x.mix(0);
                Checks.due("text of variable " + v, x.text(), v == 0 ? "0:!a;" : "0:!h;");
            }
        }
    }

    /** Promise 2: "or 2 .. 6 of nodes a and b: which one it is". */
    private static void nodeOfNodes() {
        Watched x = new Watched();
        x.number(7);
        x.number(3);
        int[] want = {10, 4, 21, 0, 0};
        int[] wantBack = {10, -4, 21, 0, 1};
        for (int kind = 2; kind <= 6; kind++) {
            Checks.due("kind " + kind, x.node(kind, 0, 1), 2 * kind - 2);
            Checks.due("kind " + kind + " back", x.node(kind, 1, 0), 2 * kind - 1);
            Checks.due("value of kind " + kind, x.valueOf(2 * kind - 2), want[kind - 2]);
            Checks.due("value of kind " + kind + " back", x.valueOf(2 * kind - 1), wantBack[kind - 2]);
        }
    }

    /** Promise 2: "or there are 150". */
    private static void nodesAre150() {
        for (int kind = 0; kind <= 6; kind++) {
            Watched x = new Watched();
            for (int i = 0; i < 149; i++) {
                x.number(1000 + i);
            }
            int k = kind;
            Checks.due("the 150th, of kind " + k, x.node(k, 1, 148), 149);
            for (int next = 0; next <= 6; next++) {
                int n = next;
                Checks.state("the 151st, of kind " + n, () -> x.node(n, 0, 0));
            }
            Checks.due("150", x.count(0), 150);
            Checks.missing("150 is none", () -> x.assign(0, 0, 150));
            Checks.due("149 is one", x.assign(0, 0, 149), 1);
            Checks.due("value of 148", x.valueOf(148), 1148);
            int[] want = {1, 0, 2149, -147, 1001 * 1148, 0, 1};
            Checks.due("value of 149", x.valueOf(149), want[k]);
        }
    }

    /** Promise 3: "An assignment behind the others of a block: how many there are." */
    private static void assignBehindTheOthers() {
        Watched x = new Watched();
        for (int i = 1; i <= 10; i++) {
            Checks.due("assignment " + i, x.assign(0, (i - 1) % 8, x.number(i)), i);
        }
        Checks.due("of another block", x.assign(15, 7, 0), 1);
        Checks.due("of another block, once more", x.assign(15, 7, 0), 2);
        x.mix(0);
        Checks.due("in order", x.text(), "0:a=1;b=2;c=3;d=4;e=5;f=6;g=7;h=8;a=9;b=10;!0;");
        x.go(0, 15);
        x.mix(0);
        Checks.due("a new jump leaves them", x.text(), "0:a=1;b=2;c=3;d=4;e=5;f=6;g=7;h=8;a=9;b=10;^1;1:h=1;h=1;!0;");
    }

    /** Promise 4: "(node is not looked at for 0, one only for 0 and 1, other only for 1)". */
    private static void jumpLooksAtWhatItNeeds() {
        for (int wrong : new int[] {LOWEST, -1, 150, HIGHEST}) {
            Watched x = new Watched();
            x.jump(0, 0, wrong, 15, wrong);
            x.mix(0);
            Checks.due("GO, no nodes at all", x.text(), "0:^1;1:!0;");
            x.number(4);
            x.jump(15, 2, 0, wrong, wrong);
            x.mix(0);
            Checks.due("RETURN", x.text(), "0:^1;1:!4;");
            Checks.missing("GO looks at one", () -> x.jump(0, 0, 0, wrong, 0));
            Checks.missing("IF looks at the node", () -> x.jump(0, 1, wrong, 0, 0));
            Checks.missing("IF looks at one", () -> x.jump(0, 1, 0, wrong, 0));
            Checks.missing("IF looks at other", () -> x.jump(0, 1, 0, 0, wrong));
            Checks.missing("RETURN looks at the node", () -> x.jump(0, 2, wrong, 0, 0));
        }
        Watched y = new Watched();
        y.jump(15, 1, y.variable('h'), 0, 15);
        y.jump(0, 1, y.variable('a'), 15, 0);
        y.mix(0);
        Checks.due("IF, the first and the last block", y.text(), "0:?a,1,0;1:?h,0,1;");
    }

    /** Promise 4: "A block's jump": it has one. */
    private static void jumpInPlaceOfTheOne() {
        Watched x = new Watched();
        int a = x.variable('a');
        x.assign(0, 1, a);
        x.either(0, a, 3, 4);
        x.go(0, 5);
        x.mix(0);
        Checks.due("a GO in place of an IF", x.text(), "0:b=a;^1;1:!0;");
        Checks.due("which goes to 5", x.about(1, 0), 5);
        x.giveBack(0, a);
        x.mix(0);
        Checks.due("a RETURN in place of a GO", x.text(), "0:b=a;!a;");
        Checks.due("goes nowhere", x.about(0, 3), NONE);
        x.either(0, a, 0, 7);
        x.mix(0);
        Checks.due("an IF in place of a RETURN", x.text(), "0:b=a;?a,0,1;1:!0;");
    }

    /** Promise 5: "A block is as at first: how many assignments it had." */
    private static void clearAsAtFirst() {
        for (int block : new int[] {0, 15}) {
            for (int had : new int[] {0, 1, 9, 10}) {
                Watched x = new Watched();
                int h = x.variable('h');
                x.input(7, 3);
                for (int i = 0; i < had; i++) {
                    x.assign(block, 0, h);
                }
                x.either(block, h, block, block);
                Checks.due("it had " + had, x.clear(block), had);
                Checks.due("it has none", x.clear(block), 0);
                Checks.due("nothing is live in it", x.live(block), 0);
                if (block != 0) {
                    x.go(0, block);
                }
                x.mix(0);
                Checks.due("text", x.text(), block == 0 ? "0:!0;" : "0:^1;1:!0;");
                Checks.due("a first one again", x.assign(block, 0, h), 1);
            }
        }
    }

    private static void clearLeavesOthers() {
        Watched x = new Watched();
        int a = x.variable('a');
        for (int block = 0; block < 16; block++) {
            x.assign(block, 0, a);
            x.either(block, a, (block + 1) % 16, 0);
        }
        x.clear(8);
        for (int block = 0; block < 16; block++) {
            Checks.due("live " + block, x.live(block), block == 8 ? 0 : 1);
        }
        Checks.due("nodes stay", x.count(0), 1);
        Checks.due("the one ahead", x.clear(7), 1);
        Checks.due("the one behind", x.clear(9), 1);
    }

    /** Promise 6: "An input: what it was." */
    private static void inputWasAndIs() {
        for (int v : new int[] {0, 7}) {
            Watched x = new Watched();
            int was = 0;
            for (int value : new int[] {HIGHEST, LOWEST, -1, 0, 0, 1}) {
                Checks.due("input " + v, x.input(v, value), was);
                was = value;
            }
            Checks.due("another one", x.input(7 - v, 9), 0);
            Checks.due("is left alone", x.input(v, 2), 1);
        }
    }

    /** 2 times k steps of counting, and one more. */
    private static Watched counting(int k, boolean oneMore) {
        Watched x = new Watched();
        x.countUp(k);
        if (oneMore) {
            x.assign(1, 0, 0);
        }
        x.giveBack(1, 0);
        return x;
    }

    /** Promise 7: "at most so many steps: whether it returned". */
    private static void runAtMostSoManySteps() {
        Watched x = counting(3, false);
        for (int n = 0; n < 7; n++) {
            Checks.due("run " + n, x.run(n), false);
            Checks.due("steps of " + n, x.result(1), n);
            Checks.due("returned by " + n, x.result(0), 0);
        }
        for (int n = 7; n < 9; n++) {
            Checks.due("run " + n, x.run(n), true);
            Checks.due("steps of " + n, x.result(1), 7);
            Checks.due("returned by " + n, x.result(0), 3);
        }
        Checks.due("none again", x.run(0), false);
        Checks.due("none again: steps", x.result(1), 0);
    }

    /** Promise 7: "IllegalArgumentException: n is not 0 .. 5000". */
    private static void runFrom0To5000() {
        Watched x = counting(2499, true);
        Checks.due("the 5000th step returns", x.run(5000), true);
        Checks.due("5000 steps", x.result(1), 5000);
        Checks.due("their value", x.result(0), 2499);
        Checks.due("4999 steps are too few", x.run(4999), false);
        Watched y = counting(2500, false);
        Checks.due("the 5001st step would return", y.run(5000), false);
        Checks.due("5000 steps all the same", y.result(1), 5000);
        Checks.due("it is at the RETURN", y.result(2), 1);
        Checks.due("0 steps", y.run(0), false);
        for (int n : new int[] {-1, 5001, LOWEST, HIGHEST}) {
            Checks.argument("run " + n, () -> y.run(n));
        }
    }

    /** Promise 8: "Runs the residual program with the present inputs". */
    private static void followWithThePresentInputs() {
        Watched x = new Watched();
        x.giveBack(0, x.node(3, x.variable('a'), x.variable('h')));
        x.input(0, 100);
        x.input(7, 30);
        x.mix(1);
        x.follow(1);
        Checks.due("as they were", x.result(0), 70);
        x.input(7, LOWEST);
        x.follow(1);
        Checks.due("a later one, wrapping", x.result(0), LOWEST + 100);
        x.input(0, 5);
        x.follow(1);
        Checks.due("the known one is done once and for all", x.result(0), LOWEST + 100);
        x.mix(128);
        x.input(7, 1);
        x.follow(1);
        Checks.due("the other one known", x.result(0), LOWEST + 5);
        x.mix(0);
        x.follow(1);
        Checks.due("none known", x.result(0), 4);
        x.mix(255);
        x.input(0, 0);
        x.follow(1);
        Checks.due("all known", x.result(0), 4);
    }

    /** Promise 8: "IllegalArgumentException likewise." */
    private static void followFrom0To5000() {
        Watched x = counting(2499, true);
        x.mix(0);
        Checks.due("the 5000th step returns", x.follow(5000), true);
        Checks.due("5000 steps", x.result(1), 5000);
        Checks.due("4999 steps are too few", x.follow(4999), false);
        x.compress();
        Checks.due("compressed, the 5000th step returns", x.follow(5000), true);
        Watched y = counting(2500, false);
        y.mix(0);
        Checks.due("the 5001st step would return", y.follow(5000), false);
        Checks.due("5000 steps all the same", y.result(1), 5000);
        for (int n : new int[] {-1, 5001, LOWEST, HIGHEST}) {
            Checks.argument("follow " + n, () -> y.follow(n));
        }
    }

    /** Promise 8: "likewise": at most so many steps, whether it returned. */
    private static void followSoManySteps() {
        Watched x = counting(2, false);
        x.mix(128);
        for (int n = 0; n < 3; n++) {
            Checks.due("follow " + n, x.follow(n), false);
            Checks.due("steps of " + n, x.result(1), n);
            Checks.due("block of " + n, x.result(2), n);
        }
        Checks.due("follow 3", x.follow(3), true);
        Checks.due("steps of 3", x.result(1), 3);
        x.compress();
        Checks.due("compressed, 0", x.follow(0), false);
        Checks.due("compressed, 1", x.follow(1), true);
        Checks.due("compressed, value", x.result(0), 2);
    }

    /** Promise 9: "Of the latest run() or follow()". */
    private static void resultOfTheLatest() {
        Watched x = counting(2, false);
        x.mix(128);
        x.run(5000);
        Checks.due("run", x.result(1), 5);
        x.follow(5000);
        Checks.due("follow", x.result(1), 3);
        Checks.due("block of follow", x.result(2), 2);
        x.run(5000);
        Checks.due("run again", x.result(1), 5);
        Checks.due("block of run", x.result(2), 1);
        x.mix(0);
        x.compress();
        x.clear(0);
        x.clear(1);
        x.input(7, 9);
        Checks.due("other calls: returned", x.result(0), 2);
        Checks.due("other calls: steps", x.result(1), 5);
        Checks.due("other calls: block", x.result(2), 1);
    }

    /** Promise 9: "0 what it returned (0 if it did not)". */
    private static void resultReturned() {
        Watched x = new Watched();
        for (int value : new int[] {LOWEST, -1, 1, HIGHEST}) {
            x.giveBack(0, x.number(value));
            x.mix(0);
            x.run(1);
            Checks.due("run returned", x.result(0), value);
            x.run(0);
            Checks.due("run did not", x.result(0), 0);
            x.follow(1);
            Checks.due("follow returned", x.result(0), value);
            x.follow(0);
            Checks.due("follow did not", x.result(0), 0);
        }
    }

    /** Promise 9: "2 the block where it was last". */
    private static void resultBlock() {
        Watched x = new Watched();
        x.go(0, 15);
        x.assign(15, 0, x.number(1));
        x.either(15, x.variable('a'), 7, 3);
        int[] want = {0, 15, 15, 7, 7, 7};
        for (int n = 0; n < want.length; n++) {
            x.run(n);
            Checks.due("behind " + n + " steps", x.result(2), want[n]);
        }
        x.mix(0);
        int[] wantResidual = {0, 1, 1, 2, 2, 2};
        for (int n = 0; n < want.length; n++) {
            x.follow(n);
            Checks.due("behind " + n + " steps of the residual program", x.result(2), wantResidual[n]);
        }
    }

    /** Promise 10: "IllegalArgumentException: known is not 0 .. 255". */
    private static void divideFrom0To255() {
        Watched x = new Watched();
        Checks.due("0", x.divide(0), 0);
        Checks.due("1", x.divide(1), 1);
        Checks.due("128", x.divide(128), 128);
        Checks.due("255", x.divide(255), 255);
        for (int known : new int[] {-1, 256, LOWEST, HIGHEST, 511, 65536}) {
            Checks.argument("divide " + known, () -> x.divide(known));
        }
    }

    private static void divideIsOfNow() {
        Watched x = new Watched();
        int a = x.variable('a');
        x.mix(0);
        x.assign(15, 7, a);
        Checks.due("h by a", x.divide(254), 126);
        x.clear(15);
        Checks.due("no more", x.divide(254), 254);
        Checks.due("the residual program stays", x.text(), "0:!0;");
    }

    /** Promise 11: "The variables that are live in a block, as bits." */
    private static void liveIsOfNow() {
        Watched x = new Watched();
        int node = x.node(1, 0, 0);
        int bits = 1;
        for (int v = 1; v < 8; v++) {
            x.giveBack(15, node);
            Checks.due("so far", x.live(15), bits);
            node = x.node(2, node, x.node(1, v, 0));
            bits += 1 << v;
        }
        x.giveBack(15, node);
        Checks.due("all eight", x.live(15), 255);
        Checks.due("none in block 0", x.live(0), 0);
        x.go(0, 15);
        Checks.due("all eight in block 0", x.live(0), 255);
        x.clear(15);
        Checks.due("none any more", x.live(0), 0);
    }

    /** Promise 12: "IllegalArgumentException: known is not 0 .. 255". */
    private static void mixFrom0To255() {
        Watched x = new Watched();
        x.giveBack(0, x.node(2, x.variable('a'), x.variable('h')));
        String[] want = {"0:!(a+h);", "0:!(0+h);", "0:!(a+0);", "0:!0;"};
        int[] known = {0, 1, 128, 255};
        for (int i = 0; i < known.length; i++) {
            Checks.due("mix " + known[i], x.mix(known[i]), 1);
            Checks.due("text of " + known[i], x.text(), want[i]);
        }
        for (int wrong : new int[] {-1, 256, LOWEST, HIGHEST, 511, 65536}) {
            Checks.argument("mix " + wrong, () -> x.mix(wrong));
        }
        Checks.due("the latest one stays", x.text(), "0:!0;");
    }

    /** Promise 12: "NONE if there would be more than 100 (the residual program that was there stays)". */
    private static void mixNoneLeavesWhatWasThere() {
        Watched x = new Watched();
        Watched fresh = new Watched();
        fresh.countUp(101);
        Checks.due("NONE at first", fresh.mix(128), NONE);
        Checks.state("there is still none", () -> fresh.follow(1));
        Checks.state("there is none to compress", () -> fresh.compress());
        Checks.missing("there is none to ask about", () -> fresh.about(0, 0));
        x.countUp(101);
        x.giveBack(1, 0);
        Checks.due("nothing known", x.mix(0), 2);
        String text = x.text();
        Checks.due("NONE", x.mix(128), NONE);
        Checks.due("count stays", x.count(1), 2);
        Checks.due("text stays", x.text(), text);
        Checks.due("about stays", x.about(0, 2), 1);
        Checks.due("it still runs", x.follow(5000), true);
        Checks.due("to the end", x.result(0), 101);
        x.compress();
        Checks.due("NONE once more", x.mix(128), NONE);
        Checks.due("the compressed one stays", x.text(), text);
    }

    /** Promise 12: "what is changed later in blocks and inputs does not change it". */
    private static void mixStaysAsItWas() {
        Watched x = new Watched();
        int a = x.variable('a');
        int h = x.variable('h');
        x.input(0, 6);
        x.assign(0, 7, x.node(2, h, a));
        x.either(0, h, 1, 15);
        x.giveBack(15, x.node(4, h, a));
        x.mix(1);
        String want = "0:h=(h+6);?h,1,2;1:!0;2:!(h*6);";
        Checks.due("at first", x.text(), want);
        x.input(0, 1);
        x.input(7, -6);
        x.clear(15);
        x.assign(0, 7, a);
        x.go(0, 3);
        x.go(1, 1);
        x.clear(0);
        x.number(0);
        Checks.due("behind changes", x.text(), want);
        x.follow(3);
        Checks.due("it comes to block 15", x.result(2), 2);
        Checks.due("as it was", x.about(2, 0), 15);
        Checks.due("its assignments", x.about(0, 1), 1);
    }

    /** Promise 13: "how many blocks are left". */
    private static void compressHowManyAreLeft() {
        Watched x = new Watched();
        x.mix(0);
        Checks.due("one", x.compress(), 1);
        x.go(0, 1);
        x.mix(0);
        Checks.due("two to one", x.compress(), 1);
        Checks.due("count", x.count(1), 1);
        x.either(0, x.variable('a'), 1, 2);
        x.mix(0);
        Checks.due("nothing to do", x.compress(), 3);
        Checks.due("again nothing", x.compress(), 3);
        Checks.due("text", x.text(), "0:?a,1,2;1:!0;2:!0;");
        Watched y = new Watched();
        y.countUp(99);
        y.mix(128);
        Checks.due("a hundred to one", y.compress(), 1);
        Checks.missing("block 1 is gone", () -> y.about(1, 0));
        y.mix(128);
        Checks.due("a hundred again", y.count(1), 100);
    }

    /** Promise 14: the first and the last residual block, the first and the last of what is told. */
    private static void aboutFirstAndLast() {
        Watched x = new Watched();
        x.mix(0);
        Checks.due("the only one", x.about(0, 0), 0);
        Checks.missing("block 1 of one", () -> x.about(1, 0));
        Checks.missing("block -1", () -> x.about(-1, 0));
        Checks.argument("what -1", () -> x.about(0, -1));
        Checks.argument("what 5", () -> x.about(0, 5));
        Watched y = new Watched();
        y.countUp(99);
        y.mix(128);
        Checks.due("block 99", y.about(99, 0), 1);
        Checks.missing("block 100", () -> y.about(100, 0));
        Checks.missing("block -1 of 100", () -> y.about(-1, 4));
    }

    /** Promise 14: "1 its assignments, 2 its jump's kind, 3, 4 where that goes (NONE: it does not)". */
    private static void aboutEachKind() {
        Watched x = new Watched();
        int a = x.variable('a');
        x.go(0, 15);
        for (int i = 0; i < 10; i++) {
            x.assign(15, 1, a);
        }
        x.either(15, a, 0, 9);
        x.giveBack(9, a);
        x.mix(0);
        int[][] want = {{0, 0, 0, 1, NONE}, {15, 10, 1, 0, 2}, {9, 0, 2, NONE, NONE}};
        for (int block = 0; block < 3; block++) {
            for (int what = 0; what < 5; what++) {
                Checks.due("about " + block + ", " + what, x.about(block, what), want[block][what]);
            }
        }
        x.compress();
        int[][] wantCompressed = {{0, 10, 1, 0, 1}, {9, 0, 2, NONE, NONE}};
        for (int block = 0; block < 2; block++) {
            for (int what = 0; what < 5; what++) {
                Checks.due("compressed " + block + ", " + what, x.about(block, what), wantCompressed[block][what]);
            }
        }
        x.assign(0, 1, a);
        x.go(15, 9);
        x.mix(0);
        x.compress();
        Checks.due("more than ten", x.about(0, 1), 11);
    }

    /** Promise 15: "Sign i of the text. NoSuchElementException: there is none". */
    private static void signFirstAndLast() {
        Watched x = new Watched();
        Checks.missing("no text: sign 0", () -> x.sign(0));
        x.mix(0);
        String want = "0:!0;";
        for (int i = 0; i < want.length(); i++) {
            Checks.due("sign " + i, x.sign(i), (int) want.charAt(i));
        }
        for (int i : new int[] {-1, want.length(), 2999, 3000, LOWEST, HIGHEST}) {
            Checks.missing("sign " + i, () -> x.sign(i));
        }
    }

    /** A text of 2994 signs and so many digits: seven assignments, one that is shorter, and RETURN of 0. */
    private static String longText(Watched x, int digits) {
        int low = x.number(LOWEST);
        int node = x.variable('a');
        StringBuilder written = new StringBuilder("a");
        StringBuilder text = new StringBuilder("0:");
        int shorter = 0;
        String shorterText = "";
        for (int i = 0; i < 29; i++) {
            if (i == 8) {
                int power = (int) Math.pow(10, digits - 1);
                shorter = x.node(3, node, x.number(power));
                shorterText = "a=(" + written + "-" + power + ");";
            }
            node = x.node(2, node, low);
            written.insert(0, '(').append("+-2147483648)");
        }
        for (int i = 0; i < 7; i++) {
            x.assign(0, 0, node);
            text.append("a=").append(written).append(';');
        }
        x.assign(0, 0, shorter);
        x.mix(0);
        return text.append(shorterText).append("!0;").toString();
    }

    /** Promise 15: "or it is not among the first 3000". */
    private static void signAmongTheFirst3000() {
        for (int digits = 5; digits <= 7; digits++) {
            Watched x = new Watched();
            String want = longText(x, digits);
            int length = 2994 + digits;
            Checks.due("length of the text that is due", want.length(), length);
            Checks.due("length", x.count(2), length);
            int told = Math.min(length, 3000);
            for (int i = told - 200; i < told; i++) {
                Checks.due("sign " + i + " of " + length, x.sign(i), (int) want.charAt(i));
            }
            Checks.missing("the next one of " + length, () -> x.sign(told));
            Checks.missing("sign 3000 of " + length, () -> x.sign(3000));
            Checks.missing("sign 3001 of " + length, () -> x.sign(3001));
        }
    }

    private static void signIsOfNow() {
        Watched x = new Watched();
        longText(x, 7);
        Checks.due("a long one", x.sign(2999), (int) '0');
        x.clear(0);
        Checks.due("the program's change is not in it", x.sign(2999), (int) '0');
        x.mix(0);
        Checks.due("a short one", x.text(), "0:!0;");
        Checks.missing("nothing is left of the long one", () -> x.sign(5));
        x.go(0, 1);
        x.mix(0);
        Checks.due("mixed anew", x.text(), "0:^1;1:!0;");
        x.compress();
        Checks.due("compressed", x.text(), "0:!0;");
    }

    /** Promise 16: "0 nodes". */
    private static void countNodes() {
        Watched x = new Watched();
        for (int i = 0; i < 150; i++) {
            Checks.due("nodes", x.count(0), i);
            x.number(i);
        }
        Checks.due("all nodes", x.count(0), 150);
        Checks.state("one more", () -> x.number(0));
        Checks.due("all nodes still", x.count(0), 150);
        x.clear(0);
        x.mix(255);
        Checks.due("they stay", x.count(0), 150);
    }

    /** Promise 16: "1 residual blocks (0: none)". */
    private static void countResidualBlocks() {
        Watched x = new Watched();
        Checks.due("none", x.count(1), 0);
        x.mix(0);
        Checks.due("one", x.count(1), 1);
        x.countUp(99);
        x.mix(128);
        Checks.due("a hundred", x.count(1), 100);
        x.input(7, -1);
        x.mix(128);
        Checks.due("a hundred still", x.count(1), 100);
        x.compress();
        Checks.due("one again", x.count(1), 1);
    }

    /** Promise 16: "2 the text's length". */
    private static void countLength() {
        Watched x = new Watched();
        Checks.due("none", x.count(2), 0);
        x.mix(0);
        Checks.due("the shortest", x.count(2), 5);
        x.go(0, 1);
        Checks.due("not mixed yet", x.count(2), 5);
        x.mix(0);
        Checks.due("longer", x.count(2), 10);
        x.compress();
        Checks.due("compressed", x.count(2), 5);
        x.countUp(99);
        x.mix(128);
        // 10 blocks of 1 digit and 90 of 2, as their own numbers and, but for 0, as what a GO goes to.
        Checks.due("a hundred blocks", x.count(2), 10 + 180 + 9 + 180 + 99 * 3 + 4);
    }

    /** Promise 16: "3 the size of a node that is the greatest so far". */
    private static void countGreatest() {
        Watched x = new Watched();
        Checks.due("none", x.count(3), 0);
        int leaf = x.number(2);
        int node = leaf;
        for (int size = 1; size <= 59; size += 2) {
            Checks.due("size " + size, x.count(3), size);
            x.number(0);
            Checks.due("size " + size + ", and a smaller one behind", x.count(3), size);
            if (size < 59) {
                node = x.node(4, node, leaf);
            }
        }
        int greatest = node;
        Checks.state("too large", () -> x.node(4, greatest, leaf));
        Checks.due("so far", x.count(3), 59);
        Checks.argument("count -1", () -> x.count(-1));
        Checks.argument("count 4", () -> x.count(4));
    }
}
