/** The boundary cases that "What it is" and "Terms" name, each sentence in a test of its own. */
public final class TermsTest {
    private static final int LOWEST = Integer.MIN_VALUE;
    private static final int HIGHEST = Integer.MAX_VALUE;
    private static final int[] VALUES = {LOWEST, LOWEST + 1, -46341, -2, -1, 0, 1, 2, 46341, HIGHEST - 1, HIGHEST};

    private TermsTest() {
    }

    public static void main(String[] args) {
        lastCallOfAll();
        variablesAreEight();
        valuesAreInts();
        nodesAreNumberedInOrder();
        plusLessAndTimesWrap();
        sameAndBelowAre1Or0();
        partsAreMadeAhead();
        sizeOfLeavesIs1();
        sizeOfOthersIs1More();
        sizeIsAtMost60();
        blocksAreSixteen();
        assignmentsAreTen();
        allBlocksFull();
        assignmentsOneAfterTheOther();
        ifIsNot0();
        atFirstABlockReturns0();
        inputsAre0AtFirst();
        runsFromBlock0();
        stepsAreAssignmentsAndJumps();
        aReturnEndsIt();
        dynamicIfNotKnown();
        dynamicByAnAssignment();
        dynamicByAnyBlock();
        dynamicByAnyPart();
        liveAheadOfAnyAssignment();
        liveInJumps();
        liveBySomeWay();
        Checks.end();
    }

    /** "An object is used for at most 512 calls after it has been made". */
    private static void lastCallOfAll() {
        Watched x = new Watched();
        fillNodes(x);
        for (int block = 0; block < 16; block++) {
            fillBlock(x, block, 7);
        }
        while (x.callsLeft() > 4) {
            x.mix(x.callsLeft() & 255);
        }
        Checks.due("509th call", x.mix(0), 16);
        Checks.due("510th call", x.compress(), 1);
        Checks.due("511th call", x.follow(5000), true);
        Checks.due("512th call", x.result(1), 161);
    }

    /** 150 nodes: the variables as 0 to 7, then numbers. */
    private static void fillNodes(Watched x) {
        for (int v = 0; v < 8; v++) {
            x.node(1, v, 0);
        }
        for (int i = 8; i < 150; i++) {
            x.number(i);
        }
    }

    /** Ten assignments, and a GO to the next block; the last block returns the node. */
    private static void fillBlock(Watched x, int block, int node) {
        for (int i = 0; i < 10; i++) {
            x.assign(block, i % 8, node);
        }
        if (block < 15) {
            x.go(block, block + 1);
        } else {
            x.giveBack(block, node);
        }
    }

    /** "VARIABLES are 0 .. 7 (written a .. h)". */
    private static void variablesAreEight() {
        Watched x = new Watched();
        for (int v = 0; v < 8; v++) {
            x.assign(0, 7 - v, x.node(1, v, 0));
            x.input(v, 100 + v);
        }
        x.mix(0);
        Checks.due("letters", x.text(), "0:h=a;g=b;f=c;e=d;d=e;c=f;b=g;a=h;!0;");
        x.clear(0);
        for (int v = 0; v < 8; v++) {
            Checks.due("variable " + v, x.valueOf(v), 100 + v);
        }
        Checks.missing("variable node -1", () -> x.node(1, -1, 0));
        Checks.missing("variable node 8", () -> x.node(1, 8, 0));
        Checks.missing("assign -1", () -> x.assign(0, -1, 0));
        Checks.missing("assign 8", () -> x.assign(0, 8, 0));
        Checks.missing("input -1", () -> x.input(-1, 0));
        Checks.missing("input 8", () -> x.input(8, 0));
    }

    /** "values ints". */
    private static void valuesAreInts() {
        Watched x = new Watched();
        int a = x.variable('a');
        for (int value : VALUES) {
            x.input(0, value);
            Checks.due("input " + value, x.valueOf(a), value);
            Checks.due("number " + value, x.valueOf(x.number(value)), value);
        }
        x.mix(1);
        Checks.due("the highest as text", x.text(), "0:!2147483647;");
    }

    /** "NODES are expressions, numbered in the order in which they were made". */
    private static void nodesAreNumberedInOrder() {
        Watched x = new Watched();
        Checks.due("the first one", x.number(5), 0);
        Checks.due("the same number again is another one", x.number(5), 1);
        Checks.missing("no such kind", () -> x.node(7, 0, 0));
        Checks.due("a call that is refused takes no number", x.variable('a'), 2);
        for (int kind = 2; kind <= 6; kind++) {
            Checks.due("kind " + kind, x.node(kind, 0, 2), kind + 1);
        }
        Checks.missing("kind -1", () -> x.node(-1, 0, 0));
        Checks.due("the next one", x.variable('a'), 8);
    }

    private static long exact(int kind, long left, long right) {
        switch (kind) {
            case 2:
                return left + right;
            case 3:
                return left - right;
            case 4:
                return left * right;
            case 5:
                return left == right ? 1 : 0;
            default:
                return left < right ? 1 : 0;
        }
    }

    /** The kind's value of all pairs: run, mixed away, and left for the residual program. */
    private static void allPairs(int kind) {
        for (int left : VALUES) {
            Watched x = new Watched();
            int node = x.node(kind, x.variable('a'), x.variable('b'));
            x.giveBack(0, node);
            x.input(0, left);
            for (int right : VALUES) {
                String what = left + " and " + right + " of kind " + kind;
                int want = (int) exact(kind, left, right);
                x.input(1, right);
                x.run(1);
                Checks.due(what, x.result(0), want);
                x.mix(3);
                Checks.due(what + ", mixed", x.text(), "0:!" + want + ";");
                x.mix(1);
                x.follow(1);
                Checks.due(what + ", half mixed", x.result(0), want);
            }
        }
    }

    /** "2 PLUS, 3 LESS, 4 TIMES (wrapping)". */
    private static void plusLessAndTimesWrap() {
        allPairs(2);
        allPairs(3);
        allPairs(4);
    }

    /** "5 SAME, 6 BELOW (1 or 0)". */
    private static void sameAndBelowAre1Or0() {
        allPairs(5);
        allPairs(6);
    }

    /** "of two nodes made ahead". */
    private static void partsAreMadeAhead() {
        Watched x = new Watched();
        Checks.missing("no nodes at all", () -> x.node(2, 0, 0));
        x.number(3);
        Checks.due("the only one, twice", x.node(2, 0, 0), 1);
        Checks.due("the latest one as a", x.node(3, 1, 0), 2);
        Checks.due("the latest one as b", x.node(4, 1, 2), 3);
        Checks.missing("itself as a", () -> x.node(2, 4, 0));
        Checks.missing("itself as b", () -> x.node(2, 0, 4));
        Checks.missing("-1 as a", () -> x.node(2, -1, 0));
        Checks.missing("-1 as b", () -> x.node(2, 0, -1));
        Checks.due("(3 + 3) * ((3 + 3) - 3)", x.valueOf(3), 18);
    }

    /** "The SIZE of a number or variable is 1". */
    private static void sizeOfLeavesIs1() {
        Watched x = new Watched();
        Checks.due("nothing", x.count(3), 0);
        x.number(HIGHEST);
        Checks.due("a number", x.count(3), 1);
        Watched y = new Watched();
        y.variable('h');
        Checks.due("a variable", y.count(3), 1);
    }

    /** "of others 1 more than those of both parts together". */
    private static void sizeOfOthersIs1More() {
        for (int kind = 2; kind <= 6; kind++) {
            Watched x = new Watched();
            x.number(1);
            x.node(kind, 0, 0);
            Checks.due("two leaves, kind " + kind, x.count(3), 3);
            x.node(kind, 1, 0);
            Checks.due("left greater, kind " + kind, x.count(3), 5);
            x.node(kind, 1, 2);
            Checks.due("right greater, kind " + kind, x.count(3), 9);
        }
    }

    /** "it is at most 60": sizes are odd, so 59 is the last one that is allowed, 61 the first that is not. */
    private static void sizeIsAtMost60() {
        Watched x = new Watched();
        int leaf = x.number(1);
        int of29 = x.chain(leaf, 15);
        int of31 = x.node(2, of29, leaf);
        int of57 = x.chain(leaf, 29);
        for (int kind = 2; kind <= 6; kind++) {
            int k = kind;
            int of59 = x.node(k, of29, of29);
            Checks.due("29 and 29", x.count(3), 59);
            x.node(k, of57, leaf);
            x.node(k, leaf, of57);
            Checks.state("29 and 31", () -> x.node(k, of29, of31));
            Checks.state("31 and 29", () -> x.node(k, of31, of29));
            Checks.state("59 and 1", () -> x.node(k, of59, leaf));
            Checks.state("1 and 59", () -> x.node(k, leaf, of59));
            Checks.state("59 and 59", () -> x.node(k, of59, of59));
        }
        Checks.due("the greatest", x.count(3), 59);
        Checks.due("30 leaves in a row", x.valueOf(x.node(2, of57, leaf)), 30);
        Checks.due("30 leaves in a row, leaning right", x.valueOf(leaningRight(x, leaf)), 30);
    }

    private static int leaningRight(Watched x, int leaf) {
        int node = leaf;
        for (int i = 1; i < 30; i++) {
            node = x.node(2, leaf, node);
        }
        return node;
    }

    /** "BLOCKS are 0 .. 15." */
    private static void blocksAreSixteen() {
        Watched x = new Watched();
        int a = x.variable('a');
        for (int block = 0; block < 16; block++) {
            Checks.due("assign " + block, x.assign(block, 0, a), 1);
            x.go(block, block < 15 ? block + 1 : 0);
            Checks.due("live " + block, x.live(block), 1);
        }
        x.run(31);
        Checks.due("all of them are come to", x.result(2), 15);
        x.run(32);
        Checks.due("from the last one to the first", x.result(2), 0);
        for (int block = 0; block < 16; block++) {
            Checks.due("clear " + block, x.clear(block), 1);
        }
        for (int block : new int[] {-1, 16}) {
            Checks.missing("assign " + block, () -> x.assign(block, 0, a));
            Checks.missing("jump of " + block, () -> x.go(block, 0));
            Checks.missing("GO to " + block, () -> x.go(0, block));
            Checks.missing("IF to " + block, () -> x.either(0, a, block, 0));
            Checks.missing("IF else to " + block, () -> x.either(0, a, 0, block));
            Checks.missing("clear " + block, () -> x.clear(block));
            Checks.missing("live " + block, () -> x.live(block));
        }
    }

    /** "Each has at most ten ASSIGNMENTS". */
    private static void assignmentsAreTen() {
        for (int block : new int[] {0, 15}) {
            Watched x = new Watched();
            int a = x.variable('a');
            int more = x.node(2, a, x.number(1));
            for (int i = 1; i <= 10; i++) {
                Checks.due("assignment " + i, x.assign(block, 0, more), i);
            }
            Checks.state("an eleventh", () -> x.assign(block, 0, more));
            x.go(0, block);
            x.giveBack(block, a);
            x.run(20);
            Checks.due("all ten are done", x.result(0), 10);
            Checks.due("all ten were there", x.clear(block), 10);
            for (int i = 1; i <= 10; i++) {
                Checks.due("assignment " + i + ", once more", x.assign(block, 0, more), i);
            }
            Checks.state("an eleventh, once more", () -> x.assign(block, 0, more));
        }
    }

    private static void allBlocksFull() {
        Watched x = new Watched();
        int a = x.variable('a');
        int more = x.node(2, a, x.number(1));
        for (int block = 0; block < 16; block++) {
            for (int i = 1; i <= 10; i++) {
                Checks.due("assignment " + i + " of block " + block, x.assign(block, 0, more), i);
            }
            if (block < 15) {
                x.go(block, block + 1);
            }
        }
        x.giveBack(15, a);
        Checks.due("all blocks full: returns", x.run(176), true);
        Checks.due("all blocks full: value", x.result(0), 160);
        Checks.due("all blocks full: mixed", x.mix(0), 16);
        Checks.due("all blocks full: compressed", x.compress(), 1);
        Checks.due("all blocks full: assignments", x.about(0, 1), 160);
        x.follow(5000);
        Checks.due("all blocks full: followed", x.result(0), 160);
        Checks.due("all blocks full: steps", x.result(1), 161);
    }

    /** "done one after the other, then a JUMP". */
    private static void assignmentsOneAfterTheOther() {
        Watched x = new Watched();
        int a = x.variable('a');
        int b = x.variable('b');
        x.assign(0, 0, b);
        x.assign(0, 1, x.node(4, a, a));
        x.giveBack(0, x.node(3, a, b));
        x.input(0, 10);
        x.input(1, 4);
        x.run(3);
        Checks.due("a was 4 already when b was assigned", x.result(0), -12);
        x.mix(1);
        x.follow(3);
        Checks.due("half mixed", x.result(0), -12);
        x.mix(3);
        Checks.due("mixed", x.text(), "0:!-12;");
        allTenInOrder();
    }

    private static void allTenInOrder() {
        Watched x = new Watched();
        int a = x.variable('a');
        int tenfold = x.node(4, a, x.number(10));
        for (int i = 0; i < 10; i++) {
            x.assign(0, 0, x.node(2, tenfold, x.number(i)));
        }
        x.giveBack(0, a);
        x.run(11);
        Checks.due("ten digits in order", x.result(0), 123456789);
        x.mix(0);
        x.follow(11);
        Checks.due("ten digits in order, left", x.result(0), 123456789);
        x.mix(1);
        Checks.due("ten digits in order, mixed", x.text(), "0:!123456789;");
    }

    /** "1 IF a node is not 0 to one block, else to another one". */
    private static void ifIsNot0() {
        for (int value : VALUES) {
            Watched x = new Watched();
            x.either(0, x.variable('a'), 1, 2);
            x.input(0, value);
            int want = value == 0 ? 2 : 1;
            x.run(1);
            Checks.due("IF of " + value, x.result(2), want);
            x.mix(0);
            x.follow(1);
            Checks.due("IF of " + value + ", left", x.result(2), want);
            x.mix(1);
            Checks.due("IF of " + value + ", mixed", x.about(1, 0), want);
        }
    }

    /** "At first a block has none, and returns the number 0." */
    private static void atFirstABlockReturns0() {
        Watched x = new Watched();
        for (int block = 0; block < 16; block++) {
            Checks.due("assignments of block " + block, x.clear(block), 0);
        }
        for (int block = 1; block < 16; block++) {
            x.go(0, block);
            Checks.due("block " + block + " returns", x.run(2), true);
            Checks.due("block " + block + " returns 0", x.result(0), 0);
            x.mix(0);
            Checks.due("block " + block + " as text", x.text(), "0:^1;1:!0;");
        }
    }

    /** "INPUTS are the variables' values at the beginning (0 at first)." */
    private static void inputsAre0AtFirst() {
        Watched x = new Watched();
        for (int v = 0; v < 8; v++) {
            Checks.due("value of " + v, x.valueOf(x.node(1, v, 0)), 0);
        }
        int a = x.variable('a');
        x.assign(0, 0, x.node(2, a, x.number(1)));
        x.giveBack(0, a);
        x.run(2);
        x.run(2);
        Checks.due("at the beginning of each run", x.result(0), 1);
        Checks.due("no run changes an input", x.input(0, 7), 0);
        x.mix(0);
        x.follow(2);
        x.follow(2);
        Checks.due("at the beginning of each follow", x.result(0), 8);
        Checks.due("no follow changes an input", x.input(0, 7), 7);
    }

    /** "TO RUN: from block 0 on". */
    private static void runsFromBlock0() {
        Watched x = new Watched();
        x.giveBack(1, x.number(5));
        Checks.due("block 0 is empty", x.run(1), true);
        Checks.due("so it is what returns", x.result(0), 0);
        x.go(0, 1);
        x.run(2);
        Checks.due("by block 0", x.result(0), 5);
        x.run(0);
        Checks.due("the next run begins there again", x.result(2), 0);
    }

    /** "each assignment and each jump is a STEP". */
    private static void stepsAreAssignmentsAndJumps() {
        Watched x = new Watched();
        int a = x.variable('a');
        x.run(5000);
        Checks.due("a RETURN", x.result(1), 1);
        x.go(0, 1);
        x.run(5000);
        Checks.due("a GO and a RETURN", x.result(1), 2);
        x.either(1, a, 3, 2);
        x.run(5000);
        Checks.due("a GO, an IF and a RETURN", x.result(1), 3);
        x.assign(2, 0, a);
        x.run(5000);
        Checks.due("an assignment too", x.result(1), 4);
        x.mix(1);
        x.follow(5000);
        Checks.due("an assignment that was done is no step", x.result(1), 3);
    }

    /** "a RETURN ends it." */
    private static void aReturnEndsIt() {
        Watched x = new Watched();
        x.giveBack(0, x.number(3));
        x.giveBack(1, x.number(4));
        Checks.due("it returns", x.run(5000), true);
        Checks.due("what it returned", x.result(0), 3);
        Checks.due("steps", x.result(1), 1);
        Checks.due("block", x.result(2), 0);
    }

    /** "a variable is DYNAMIC if it is not known". */
    private static void dynamicIfNotKnown() {
        Watched x = new Watched();
        for (int known = 0; known < 256; known++) {
            Checks.due("nothing assigned, known " + known, x.divide(known), known);
        }
        int one = x.number(1);
        for (int v = 0; v < 8; v++) {
            x.assign(0, v, one);
        }
        Checks.due("none known, though numbers are assigned", x.divide(0), 0);
        Checks.due("a known", x.divide(1), 1);
        Checks.due("h known", x.divide(128), 128);
        Checks.due("all known", x.divide(255), 255);
    }

    /** "or if some assignment of a node with a dynamic variable in it is to it". */
    private static void dynamicByAnAssignment() {
        Watched x = new Watched();
        int a = x.variable('a');
        int b = x.variable('b');
        x.assign(0, 0, a);
        Checks.due("by itself it stays static", x.divide(255), 255);
        x.assign(0, 0, b);
        Checks.due("b known", x.divide(3), 3);
        Checks.due("b not known", x.divide(1), 0);
        x.assign(0, 0, x.number(1));
        Checks.due("a later number does not help", x.divide(1), 0);
        x.clear(0);
        Checks.due("the assignment is gone", x.divide(1), 1);
        x.giveBack(0, b);
        x.either(1, b, 1, 1);
        Checks.due("jumps make nothing dynamic", x.divide(1), 1);
        Watched chain = new Watched();
        for (int v = 0; v < 8; v++) {
            chain.node(1, v, 0);
        }
        for (int v = 7; v > 0; v--) {
            chain.assign(0, v, v - 1);
        }
        Checks.due("all by a chain of seven", chain.divide(254), 0);
        Checks.due("the last one alone", chain.divide(127), 127);
        Checks.due("the fifth one on", chain.divide(255 - 16), 15);
    }

    /** "(of any block)". */
    private static void dynamicByAnyBlock() {
        for (int block = 0; block < 16; block++) {
            Watched x = new Watched();
            x.assign(block, 0, x.variable('h'));
            Checks.due("by block " + block, x.divide(1), 0);
        }
    }

    /** "a node with a dynamic variable in it": whatever it comes to, and however deep it is. */
    private static void dynamicByAnyPart() {
        Watched x = new Watched();
        int b = x.variable('b');
        x.assign(0, 0, x.node(4, b, x.number(0)));
        Checks.due("0 times", x.divide(1), 0);
        x.clear(0);
        x.assign(0, 0, x.node(3, b, b));
        Checks.due("less itself", x.divide(1), 0);
        x.clear(0);
        int node = b;
        for (int i = 0; i < 29; i++) {
            node = x.node(2, x.number(1), node);
        }
        x.assign(0, 0, node);
        Checks.due("30 levels deep", x.divide(1), 0);
        Checks.due("30 levels deep, known", x.divide(3), 3);
    }

    /** "in a node of an assignment ahead of any assignment to it". */
    private static void liveAheadOfAnyAssignment() {
        Watched x = new Watched();
        int h = x.variable('h');
        int one = x.number(1);
        Checks.due("in no block", x.live(0), 0);
        x.assign(0, 0, h);
        Checks.due("in the first assignment", x.live(0), 128);
        x.clear(0);
        x.assign(0, 7, h);
        Checks.due("in the assignment to it", x.live(0), 128);
        x.clear(0);
        x.assign(0, 7, one);
        x.assign(0, 0, h);
        Checks.due("behind an assignment to it", x.live(0), 0);
        x.clear(0);
        for (int i = 0; i < 9; i++) {
            x.assign(0, i % 7, one);
        }
        x.assign(0, 0, h);
        Checks.due("in the tenth assignment", x.live(0), 128);
        x.clear(0);
        for (int i = 0; i < 9; i++) {
            x.assign(0, i % 7, one);
        }
        x.assign(0, 7, one);
        x.giveBack(0, h);
        Checks.due("assigned by the tenth one", x.live(0), 0);
        x.clear(0);
        x.assign(0, 7, one);
        for (int i = 0; i < 8; i++) {
            x.assign(0, i % 7, one);
        }
        x.assign(0, 0, h);
        x.giveBack(0, h);
        Checks.due("assigned by the first one, and used by the tenth", x.live(0), 0);
    }

    /** "or jump": an IF's or RETURN's node; a GO has none. */
    private static void liveInJumps() {
        Watched x = new Watched();
        int a = x.variable('a');
        int h = x.variable('h');
        x.giveBack(0, x.node(2, a, h));
        Checks.due("RETURN", x.live(0), 129);
        x.either(0, h, 1, 2);
        Checks.due("IF", x.live(0), 128);
        x.jump(0, 0, h, 1, 2);
        Checks.due("GO", x.live(0), 0);
        x.either(0, h, 1, 2);
        x.assign(0, 7, a);
        Checks.due("IF behind an assignment to it", x.live(0), 1);
    }

    /** "by some way from its beginning on". */
    private static void liveBySomeWay() {
        Watched x = new Watched();
        int zero = x.number(0);
        int h = x.variable('h');
        for (int block = 0; block < 15; block++) {
            x.either(block, zero, block + 1, block);
        }
        x.giveBack(15, h);
        for (int block = 0; block < 16; block++) {
            Checks.due("by the first blocks, from " + block, x.live(block), 128);
        }
        for (int block = 0; block < 15; block++) {
            x.either(block, zero, block, block + 1);
        }
        Checks.due("by the other blocks", x.live(0), 128);
        x.assign(8, 7, zero);
        Checks.due("every way is cut", x.live(0), 0);
        Checks.due("cut in the block itself", x.live(8), 0);
        Checks.due("not cut", x.live(9), 128);
        x.either(0, zero, 0, 9);
        Checks.due("another way", x.live(0), 128);
        x.go(0, 0);
        Checks.due("round and round", x.live(0), 0);
        for (int block = 15; block > 0; block--) {
            x.clear(block);
            x.go(block, block - 1);
        }
        x.giveBack(0, h);
        Checks.due("downwards", x.live(15), 128);
    }
}
