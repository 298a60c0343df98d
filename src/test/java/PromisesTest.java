/** Each promise of the document: ordinary inputs, the edges that it names, and wrong inputs. */
public final class PromisesTest {
    private static final int LOWEST = Integer.MIN_VALUE;
    private static final int HIGHEST = Integer.MAX_VALUE;
    private static final int GO = 0;
    private static final int IF = 1;
    private static final int RETURN = 2;

    private PromisesTest() {
    }

    public static void main(String[] args) {
        newObject();
        nodes();
        nodeLimits();
        assignments();
        jumps();
        clearing();
        inputs();
        runs();
        runValues();
        runCutOff();
        follows();
        results();
        divisions();
        lives();
        mixing();
        mixingStates();
        mixingKeepsWhatWasThere();
        mixingLimit();
        compressing();
        compressingLeavesAlone();
        about();
        texts();
        longText();
        counts();
        Checks.end();
    }

    private static int number(FlowMixer x, int value) {
        return x.node(0, value, 0);
    }

    private static int variable(FlowMixer x, char letter) {
        return x.node(1, letter - 'a', 0);
    }

    private static int returned(FlowMixer x, int node) {
        x.jump(0, RETURN, node, 0, 0);
        x.run(1);
        return x.result(0);
    }

    /** a is counted down to 0, c becomes b to the power of a. */
    private static FlowMixer power(int a, int b) {
        FlowMixer x = new FlowMixer();
        int na = variable(x, 'a');
        int nb = variable(x, 'b');
        int nc = variable(x, 'c');
        int one = number(x, 1);
        x.assign(0, 2, one);
        x.jump(0, GO, 0, 1, 0);
        x.jump(1, IF, na, 2, 3);
        x.assign(2, 2, x.node(4, nc, nb));
        x.assign(2, 0, x.node(3, na, one));
        x.jump(2, GO, 0, 1, 0);
        x.jump(3, RETURN, nc, 0, 0);
        x.input(0, a);
        x.input(1, b);
        return x;
    }

    private static void newObject() {
        FlowMixer x = new FlowMixer();
        Checks.due("NONE", FlowMixer.NONE, -1);
        for (int what = 0; what < 4; what++) {
            Checks.due("new: count " + what, x.count(what), 0);
        }
        for (int what = 0; what < 3; what++) {
            Checks.due("new: result " + what, x.result(what), 0);
        }
        Checks.state("new: follow", () -> x.follow(1));
        Checks.state("new: compress", () -> x.compress());
        Checks.missing("new: about", () -> x.about(0, 0));
        Checks.missing("new: sign", () -> x.sign(0));
        Checks.missing("new: no node 0", () -> x.assign(0, 0, 0));
        for (int block = 0; block < 16; block++) {
            Checks.due("new: live " + block, x.live(block), 0);
            Checks.due("new: clear " + block, x.clear(block), 0);
        }
        for (int v = 0; v < 8; v++) {
            Checks.due("new: input " + v, x.input(v, 0), 0);
        }
        Checks.due("new: run", x.run(1), true);
        Checks.due("new: returns", x.result(0), 0);
        Checks.due("new: mix", x.mix(0), 1);
        Checks.due("new: text", Checks.text(x), "0:!0;");
    }

    private static void nodes() {
        FlowMixer x = new FlowMixer();
        Checks.due("first node", x.node(0, 7, 99), 0);
        Checks.due("b of a number is not looked at", x.node(0, LOWEST, -5), 1);
        Checks.due("b of a variable is not looked at", x.node(1, 7, 1000), 2);
        for (int kind = 2; kind <= 6; kind++) {
            Checks.due("node of kind " + kind, x.node(kind, 0, 1), kind + 1);
        }
        Checks.missing("kind -1", () -> x.node(-1, 0, 0));
        Checks.missing("kind 7", () -> x.node(7, 0, 0));
        Checks.missing("lowest kind", () -> x.node(LOWEST, 0, 0));
        Checks.missing("variable -1", () -> x.node(1, -1, 0));
        Checks.missing("variable 8", () -> x.node(1, 8, 0));
        Checks.missing("node -1 as a", () -> x.node(2, -1, 0));
        Checks.missing("node -1 as b", () -> x.node(2, 0, -1));
        Checks.missing("itself as a", () -> x.node(2, 8, 0));
        Checks.missing("itself as b", () -> x.node(6, 0, 8));
        Checks.due("nothing made by wrong calls", x.count(0), 8);
    }

    private static void nodeLimits() {
        FlowMixer x = new FlowMixer();
        int leaf = number(x, 1);
        int node = leaf;
        for (int size = 3; size <= 59; size += 2) {
            node = x.node(2, node, leaf);
            Checks.due("size of a chain", x.count(3), size);
        }
        int large = node;
        Checks.due("value of a chain of 30 levels", returned(x, large), 30);
        Checks.state("size 61, right", () -> x.node(2, large, leaf));
        Checks.state("size 61, left", () -> x.node(2, leaf, large));
        Checks.missing("no such node ahead of the size", () -> x.node(2, large, 149));
        Checks.due("greatest stays", x.count(3), 59);
        for (int i = x.count(0); i < 150; i++) {
            Checks.due("node " + i, number(x, i), i);
        }
        Checks.state("151 nodes", () -> x.node(0, 0, 0));
        Checks.state("151 nodes, a variable", () -> x.node(1, 0, 0));
        Checks.missing("kind ahead of the number of nodes", () -> x.node(7, 0, 0));
        Checks.missing("variable ahead of the number of nodes", () -> x.node(1, 8, 0));
        Checks.missing("node 150 is none", () -> x.node(2, 150, 0));
        Checks.missing("node 150 is not assigned", () -> x.assign(0, 0, 150));
        Checks.missing("node 150 is not returned", () -> x.jump(0, RETURN, 150, 0, 0));
        Checks.due("150 nodes", x.count(0), 150);
        Checks.due("the last node", returned(x, 149), 149);
    }

    private static void assignments() {
        FlowMixer x = new FlowMixer();
        int one = number(x, 1);
        int a = variable(x, 'a');
        int more = x.node(2, a, one);
        Checks.missing("block -1", () -> x.assign(-1, 0, 0));
        Checks.missing("block 16", () -> x.assign(16, 0, 0));
        Checks.missing("variable -1", () -> x.assign(0, -1, 0));
        Checks.missing("variable 8", () -> x.assign(0, 8, 0));
        Checks.missing("node -1", () -> x.assign(0, 0, -1));
        Checks.missing("node 3", () -> x.assign(0, 0, 3));
        for (int i = 1; i <= 10; i++) {
            Checks.due("assignment " + i, x.assign(15, i % 8, more), i);
        }
        Checks.state("an eleventh", () -> x.assign(15, 0, 0));
        Checks.missing("no such node ahead of ten", () -> x.assign(15, 0, 3));
        Checks.missing("no such variable ahead of ten", () -> x.assign(15, 8, 0));
        Checks.due("other blocks have none", x.assign(14, 0, one), 1);
        x.jump(0, GO, 0, 15, 0);
        x.jump(15, RETURN, a, 0, 0);
        Checks.due("ten are done", x.run(12), true);
        Checks.due("one after the other", x.result(0), 1);
        Checks.due("steps of ten", x.result(1), 12);
    }

    private static void jumps() {
        FlowMixer x = new FlowMixer();
        int five = number(x, 5);
        Checks.missing("block -1", () -> x.jump(-1, RETURN, 0, 0, 0));
        Checks.missing("block 16", () -> x.jump(16, RETURN, 0, 0, 0));
        Checks.missing("kind -1", () -> x.jump(0, -1, 0, 0, 0));
        Checks.missing("kind 3", () -> x.jump(0, 3, 0, 0, 0));
        Checks.missing("GO to -1", () -> x.jump(0, GO, 0, -1, 0));
        Checks.missing("GO to 16", () -> x.jump(0, GO, 0, 16, 0));
        Checks.missing("IF of node -1", () -> x.jump(0, IF, -1, 0, 0));
        Checks.missing("IF of node 1", () -> x.jump(0, IF, 1, 0, 0));
        Checks.missing("IF to -1", () -> x.jump(0, IF, 0, -1, 0));
        Checks.missing("IF to 16", () -> x.jump(0, IF, 0, 16, 0));
        Checks.missing("IF else to -1", () -> x.jump(0, IF, 0, 0, -1));
        Checks.missing("IF else to 16", () -> x.jump(0, IF, 0, 0, 16));
        Checks.missing("RETURN of node -1", () -> x.jump(0, RETURN, -1, 0, 0));
        Checks.missing("RETURN of node 1", () -> x.jump(0, RETURN, 1, 0, 0));
        Checks.due("nothing changed", x.run(1), true);
        Checks.due("still returns 0", x.result(0), 0);
        x.jump(0, GO, 99, 1, 99);
        x.jump(1, RETURN, five, -9, 99);
        Checks.due("GO looks at one only, RETURN at the node only", x.run(2), true);
        Checks.due("returns 5", x.result(0), 5);
        x.jump(1, IF, five, 2, 3);
        x.jump(2, RETURN, five, 0, 0);
        x.run(3);
        Checks.due("a later jump is in place of the one before", x.result(2), 2);
    }

    private static void clearing() {
        FlowMixer x = new FlowMixer();
        int five = number(x, 5);
        x.assign(0, 0, five);
        x.assign(0, 1, five);
        x.jump(0, RETURN, five, 0, 0);
        x.assign(1, 1, five);
        Checks.missing("block -1", () -> x.clear(-1));
        Checks.missing("block 16", () -> x.clear(16));
        Checks.due("two assignments", x.clear(0), 2);
        Checks.due("none any more", x.clear(0), 0);
        Checks.due("it returns at once", x.run(1), true);
        Checks.due("it returns 0", x.result(0), 0);
        Checks.due("other blocks stay", x.clear(1), 1);
        x.assign(0, 0, five);
        x.jump(0, RETURN, variable(x, 'a'), 0, 0);
        x.run(2);
        Checks.due("a cleared block can be filled again", x.result(0), 5);
        Checks.due("nodes stay", x.count(0), 2);
    }

    private static void inputs() {
        FlowMixer x = new FlowMixer();
        for (int v = 0; v < 8; v++) {
            Checks.due("first input", x.input(v, LOWEST + v), 0);
        }
        for (int v = 0; v < 8; v++) {
            Checks.due("second input", x.input(v, HIGHEST - v), LOWEST + v);
            int node = x.node(1, v, 0);
            Checks.due("input is run with", returned(x, node), HIGHEST - v);
        }
        Checks.missing("variable -1", () -> x.input(-1, 0));
        Checks.missing("variable 8", () -> x.input(8, 0));
        x.assign(0, 0, number(x, 3));
        x.run(2);
        Checks.due("a run changes no input", x.input(0, 1), HIGHEST);
    }

    private static void runs() {
        FlowMixer x = power(3, 5);
        Checks.argument("run -1", () -> x.run(-1));
        Checks.argument("run 5001", () -> x.run(5001));
        Checks.due("15 steps are too few", x.run(15), false);
        Checks.due("16 steps", x.run(16), true);
        Checks.due("5 to the power of 3", x.result(0), 125);
        Checks.due("steps", x.result(1), 16);
        Checks.due("block", x.result(2), 3);
        Checks.argument("a wrong run", () -> x.run(5001));
        Checks.due("changes nothing", x.result(0), 125);
        FlowMixer endless = new FlowMixer();
        endless.jump(0, GO, 0, 0, 0);
        Checks.due("endless", endless.run(5000), false);
        Checks.due("all steps taken", endless.result(1), 5000);
    }

    private static void runValues() {
        FlowMixer x = new FlowMixer();
        int low = number(x, LOWEST);
        int high = number(x, HIGHEST);
        int minus = number(x, -1);
        Checks.due("plus wraps", returned(x, x.node(2, low, minus)), HIGHEST);
        Checks.due("less wraps", returned(x, x.node(3, high, minus)), LOWEST);
        Checks.due("less in order", returned(x, x.node(3, minus, high)), LOWEST);
        Checks.due("times wraps", returned(x, x.node(4, low, minus)), LOWEST);
        Checks.due("times of the highest", returned(x, x.node(4, high, high)), 1);
        Checks.due("same", returned(x, x.node(5, low, low)), 1);
        Checks.due("not the same", returned(x, x.node(5, low, high)), 0);
        Checks.due("below", returned(x, x.node(6, low, high)), 1);
        Checks.due("not below", returned(x, x.node(6, high, low)), 0);
        Checks.due("not below itself", returned(x, x.node(6, low, low)), 0);
    }

    private static void runCutOff() {
        FlowMixer x = power(3, 5);
        Checks.due("no step", x.run(0), false);
        Checks.due("no step: steps", x.result(1), 0);
        Checks.due("no step: block", x.result(2), 0);
        x.run(1);
        Checks.due("an assignment: block", x.result(2), 0);
        x.run(2);
        Checks.due("behind the jump it is in the next block", x.result(2), 1);
        x.run(3);
        Checks.due("behind the IF it is in the block chosen", x.result(2), 2);
        x.run(4);
        Checks.due("steps of a run cut off", x.result(1), 4);
        Checks.due("it returned nothing", x.result(0), 0);
        x.input(0, 0);
        x.run(3);
        Checks.due("IF of 0 goes to the other", x.result(2), 3);
        x.input(0, -1);
        x.run(3);
        Checks.due("IF of a number below 0 is not 0", x.result(2), 2);
    }

    private static void follows() {
        FlowMixer x = power(3, 5);
        Checks.argument("follow -1, ahead of there being none", () -> x.follow(-1));
        Checks.argument("follow 5001, ahead of there being none", () -> x.follow(5001));
        Checks.state("there is none", () -> x.follow(0));
        x.mix(1);
        Checks.argument("follow -1", () -> x.follow(-1));
        Checks.argument("follow 5001", () -> x.follow(5001));
        Checks.due("12 steps are too few", x.follow(12), false);
        Checks.due("the residual block where it was last", x.result(2), 8);
        Checks.due("13 steps", x.follow(13), true);
        Checks.due("the same answer", x.result(0), 125);
        Checks.due("steps of the residual program", x.result(1), 13);
        Checks.due("no step", x.follow(0), false);
        x.input(1, -2);
        Checks.due("with another input", x.follow(5000), true);
        Checks.due("present inputs", x.result(0), -8);
        x.input(0, 5);
        x.follow(5000);
        Checks.due("what was known stays as it was", x.result(0), -8);
        x.mix(2);
        x.input(1, 100);
        x.follow(5000);
        Checks.due("the other one known", x.result(0), -32);
        x.compress();
        x.follow(5000);
        Checks.due("compressed", x.result(0), -32);
        FlowMixer y = new FlowMixer();
        int b = variable(y, 'b');
        y.assign(0, 0, y.node(2, variable(y, 'a'), b));
        y.assign(0, 1, y.node(2, b, number(y, 1)));
        y.assign(0, 2, y.node(4, variable(y, 'a'), b));
        y.jump(0, RETURN, y.node(3, variable(y, 'c'), b), 0, 0);
        y.input(1, 10);
        y.mix(2);
        Checks.due("a static variable changes on the way", Checks.text(y), "0:a=(a+10);c=(a*11);!(c-11);");
        y.input(0, 5);
        y.input(1, 1000);
        Checks.due("two assignments and the jump", y.follow(3), true);
        Checks.due("by the values that were known", y.result(0), 154);
    }

    private static void results() {
        FlowMixer x = power(2, 3);
        x.mix(1);
        x.run(5000);
        Checks.argument("result -1", () -> x.result(-1));
        Checks.argument("result 3", () -> x.result(3));
        Checks.due("run: returned", x.result(0), 9);
        Checks.due("run: steps", x.result(1), 12);
        Checks.due("run: block", x.result(2), 3);
        x.follow(5000);
        Checks.due("follow: returned", x.result(0), 9);
        Checks.due("follow: steps", x.result(1), 10);
        Checks.due("follow: residual block", x.result(2), 6);
        x.compress();
        x.mix(0);
        x.clear(0);
        x.input(0, 8);
        Checks.due("other calls change no result", x.result(1), 10);
        Checks.due("other calls change no result", x.result(2), 6);
        x.follow(3);
        Checks.due("the latest one did not return", x.result(0), 0);
    }

    private static void divisions() {
        FlowMixer x = power(3, 5);
        Checks.argument("divide -1", () -> x.divide(-1));
        Checks.argument("divide 256", () -> x.divide(256));
        Checks.due("none known", x.divide(0), 0);
        Checks.due("all known", x.divide(255), 255);
        Checks.due("a", x.divide(1), 1);
        Checks.due("a and c: c is assigned c*b", x.divide(5), 1);
        Checks.due("b and c", x.divide(6), 6);
        Checks.due("an unknown one stays dynamic though a number is assigned", x.divide(3), 3);
        FlowMixer chain = new FlowMixer();
        for (int v = 0; v < 8; v++) {
            chain.node(1, v, 0);
        }
        for (int v = 0; v < 7; v++) {
            chain.assign(15 - v, 6 - v, 7 - v);
        }
        Checks.due("a long chain backwards", chain.divide(127), 0);
        Checks.due("nothing dynamic", chain.divide(255), 255);
        Checks.due("the end of the chain unknown", chain.divide(254), 254);
        FlowMixer forward = new FlowMixer();
        for (int v = 0; v < 8; v++) {
            forward.node(1, v, 0);
        }
        for (int v = 7; v > 0; v--) {
            forward.assign(0, v, v - 1);
        }
        Checks.due("one round is not enough", forward.divide(254), 0);
        Checks.due("blocks that are never come to count", afterUnreachable().divide(1), 0);
    }

    private static FlowMixer afterUnreachable() {
        FlowMixer x = new FlowMixer();
        int b = variable(x, 'b');
        x.assign(9, 0, x.node(4, b, number(x, 0)));
        return x;
    }

    private static void lives() {
        FlowMixer x = power(3, 5);
        Checks.missing("live -1", () -> x.live(-1));
        Checks.missing("live 16", () -> x.live(16));
        Checks.due("c is assigned ahead", x.live(0), 3);
        Checks.due("all of them", x.live(1), 7);
        Checks.due("used and assigned at once", x.live(2), 7);
        Checks.due("at the end", x.live(3), 4);
        Checks.due("a block without anything", x.live(4), 0);
        FlowMixer chain = new FlowMixer();
        int h = variable(chain, 'h');
        int zero = number(chain, 0);
        for (int block = 0; block < 15; block++) {
            chain.jump(block, GO, 99, block + 1, 99);
        }
        chain.jump(15, RETURN, h, 0, 0);
        Checks.due("a way through all blocks", chain.live(0), 128);
        chain.assign(7, 7, zero);
        Checks.due("assigned on the way", chain.live(0), 0);
        Checks.due("behind the assignment", chain.live(8), 128);
        chain.jump(0, IF, zero, 1, 15);
        Checks.due("by some way, whatever the IF's node is", chain.live(0), 128);
        chain.clear(15);
        for (int block = 15; block > 0; block--) {
            chain.jump(block, GO, 0, block - 1, 0);
        }
        chain.jump(0, RETURN, h, 0, 0);
        Checks.due("a way backwards, cut", chain.live(15), 0);
        Checks.due("a way backwards", chain.live(6), 128);
        FlowMixer dead = new FlowMixer();
        int a = variable(dead, 'a');
        dead.assign(0, 1, a);
        Checks.due("in a node, though what is assigned is not used", dead.live(0), 1);
        dead.jump(0, IF, variable(dead, 'b'), 1, 1);
        Checks.due("assigned ahead of the jump", dead.live(0), 1);
        dead.assign(0, 2, variable(dead, 'b'));
        Checks.due("assigned ahead of another assignment", dead.live(0), 1);
        dead.assign(0, 3, variable(dead, 'c'));
        dead.assign(1, 4, variable(dead, 'd'));
        dead.assign(1, 4, variable(dead, 'f'));
        Checks.due("assigned ahead of the next block", dead.live(0), 33);
        Checks.due("live in the next block", dead.live(1), 40);
    }

    private static void mixing() {
        FlowMixer x = power(3, 5);
        Checks.argument("mix -1", () -> x.mix(-1));
        Checks.argument("mix 256", () -> x.mix(256));
        Checks.due("a known", x.mix(1), 9);
        Checks.due("text, a known", Checks.text(x),
                "0:c=1;^1;1:^2;2:c=(c*b);^3;3:^4;4:c=(c*b);^5;5:^6;6:c=(c*b);^7;7:^8;8:!c;");
        Checks.due("b known", x.mix(2), 4);
        Checks.due("text, b known", Checks.text(x), "0:c=1;^1;1:?a,2,3;2:c=(c*5);a=(a-1);^1;3:!c;");
        Checks.due("nothing known", x.mix(0), 4);
        Checks.due("text, nothing known", Checks.text(x), "0:c=1;^1;1:?a,2,3;2:c=(c*b);a=(a-1);^1;3:!c;");
        Checks.due("all known", x.mix(7), 9);
        Checks.due("text, all known", Checks.text(x), "0:^1;1:^2;2:^3;3:^4;4:^5;5:^6;6:^7;7:^8;8:!125;");
        x.input(0, 0);
        Checks.due("present inputs", x.mix(1), 3);
        Checks.due("text, present inputs", Checks.text(x), "0:c=1;^1;1:^2;2:!c;");
    }

    private static void mixingStates() {
        FlowMixer x = new FlowMixer();
        int a = variable(x, 'a');
        int b = variable(x, 'b');
        int seven = number(x, 7);
        x.jump(0, IF, b, 2, 1);
        x.assign(1, 0, seven);
        x.jump(1, GO, 0, 3, 0);
        x.assign(2, 0, x.node(2, seven, seven));
        x.jump(2, GO, 0, 3, 0);
        x.jump(3, RETURN, x.node(2, x.node(4, a, seven), b), 0, 0);
        Checks.due("a block with two values of a", x.mix(1), 5);
        Checks.due("the first block of an IF first, parts as numbers", Checks.text(x),
                "0:?b,1,2;1:^3;2:^4;3:!(98+b);4:!(49+b);");
        x.jump(3, RETURN, b, 0, 0);
        Checks.due("a is not live there", x.mix(1), 4);
        Checks.due("one state for both", Checks.text(x), "0:?b,1,2;1:^3;2:^3;3:!b;");
        x.jump(0, IF, b, 1, 1);
        x.mix(1);
        Checks.due("an IF with the same state twice stays", Checks.text(x), "0:?b,1,1;1:^2;2:!b;");
        x.jump(0, IF, seven, 1, 2);
        x.mix(0);
        Checks.due("an IF without variables is a GO", Checks.text(x), "0:^1;1:a=7;^2;2:!b;");
        x.jump(0, IF, x.node(5, seven, b), 0, 1);
        x.input(1, 8);
        x.mix(2);
        Checks.due("a static IF of 0 goes to the other", Checks.text(x), "0:^1;1:a=7;^2;2:!8;");
        x.clear(0);
        x.jump(0, GO, 0, 0, 0);
        Checks.due("an endless GO is one state", x.mix(255), 1);
        Checks.due("text of an endless GO", Checks.text(x), "0:^0;");
    }

    private static void mixingKeepsWhatWasThere() {
        FlowMixer x = power(3, 5);
        x.mix(1);
        String before = Checks.text(x);
        for (int block = 0; block < 4; block++) {
            x.clear(block);
        }
        x.input(0, 77);
        x.node(0, 1, 1);
        Checks.due("later changes do not change it", Checks.text(x), before);
        x.follow(100);
        Checks.due("it still comes to the same", x.result(0), 125);
        Checks.argument("a wrong mix", () -> x.mix(256));
        Checks.due("changes nothing", Checks.text(x), before);
        countUp(x, 200);
        Checks.due("too many", x.mix(255), FlowMixer.NONE);
        Checks.due("the residual program stays", Checks.text(x), before);
        Checks.due("its blocks too", x.count(1), 9);
        x.follow(100);
        Checks.due("and it runs", x.result(0), 125);
        FlowMixer none = new FlowMixer();
        countUp(none, 200);
        Checks.due("too many at first", none.mix(255), FlowMixer.NONE);
        Checks.due("there is still none", none.count(1), 0);
        Checks.state("there is still none to follow", () -> none.follow(1));
    }

    /** Block 0 counts h up to a limit, then goes to block 1, which returns h. */
    private static void countUp(FlowMixer x, int limit) {
        int h = variable(x, 'h');
        x.assign(0, 7, x.node(2, h, number(x, 1)));
        x.jump(0, IF, x.node(6, h, number(x, limit)), 0, 1);
        x.jump(1, RETURN, h, 0, 0);
    }

    private static void mixingLimit() {
        FlowMixer x = new FlowMixer();
        countUp(x, 99);
        Checks.due("100 blocks", x.mix(128), 100);
        Checks.due("100 blocks: the last one", x.about(99, 0), 1);
        Checks.due("100 blocks: length", x.count(2), lengthOfChain());
        x.follow(100);
        Checks.due("100 blocks: returned", x.result(0), 99);
        Checks.due("100 blocks: steps", x.result(1), 100);
        x.input(7, -1);
        Checks.due("101 blocks", x.mix(128), FlowMixer.NONE);
        Checks.due("still 100", x.count(1), 100);
        Checks.due("compressed", x.compress(), 1);
        Checks.due("compressed text", Checks.text(x), "0:!99;");
    }

    /** Blocks 0 to 98 as "n:^n;" with the next number, block 99 as "99:!99;". */
    private static int lengthOfChain() {
        StringBuilder text = new StringBuilder();
        for (int block = 0; block < 99; block++) {
            text.append(block).append(":^").append(block + 1).append(';');
        }
        return text.append("99:!99;").length();
    }

    private static void compressing() {
        FlowMixer x = power(3, 5);
        Checks.state("there is none", () -> x.compress());
        x.mix(1);
        Checks.due("to one", x.compress(), 1);
        Checks.due("text of one", Checks.text(x), "0:c=1;c=(c*b);c=(c*b);c=(c*b);!c;");
        Checks.due("again", x.compress(), 1);
        Checks.due("text stays", Checks.text(x), "0:c=1;c=(c*b);c=(c*b);c=(c*b);!c;");
        x.mix(2);
        Checks.due("1 is gone to twice, 2 and 3 by an IF", x.compress(), 4);
        FlowMixer y = new FlowMixer();
        int a = variable(y, 'a');
        int b = variable(y, 'b');
        y.jump(0, IF, a, 1, 2);
        y.assign(1, 1, a);
        y.jump(1, GO, 0, 3, 0);
        y.jump(2, GO, 0, 4, 0);
        y.assign(3, 2, a);
        y.jump(3, IF, b, 5, 2);
        y.assign(4, 3, b);
        y.jump(4, GO, 0, 6, 0);
        y.jump(5, RETURN, a, 0, 0);
        y.jump(6, GO, 0, 4, 0);
        Checks.due("seven blocks", y.mix(0), 7);
        Checks.due("seven blocks: text", Checks.text(y),
                "0:?a,1,2;1:b=a;^3;2:^4;3:c=a;?b,5,2;4:d=b;^6;5:!a;6:^4;");
        Checks.due("3 behind 1, 6 behind 4", y.compress(), 5);
        Checks.due("numbered anew", Checks.text(y), "0:?a,1,2;1:b=a;c=a;?b,4,2;2:^3;3:d=b;^3;4:!a;");
        Checks.due("origin of a block that took another", y.about(1, 0), 1);
        Checks.due("origin of a block numbered anew", y.about(4, 0), 5);
    }

    private static void compressingLeavesAlone() {
        FlowMixer x = new FlowMixer();
        int a = variable(x, 'a');
        x.jump(0, GO, 0, 1, 0);
        x.jump(1, GO, 0, 0, 0);
        x.mix(0);
        Checks.due("block 0 stays, though one GO goes to it", x.compress(), 1);
        Checks.due("a GO to itself", Checks.text(x), "0:^0;");
        x.assign(0, 0, a);
        x.assign(0, 1, a);
        x.assign(1, 2, a);
        x.assign(1, 3, a);
        x.assign(1, 4, a);
        x.mix(0);
        Checks.due("block 0 stays, as it is the first", x.compress(), 1);
        Checks.due("all assignments in order", Checks.text(x), "0:a=a;b=a;c=a;d=a;e=a;^0;");
        x.follow(12);
        Checks.due("steps round and round", x.result(1), 12);
        x.jump(0, IF, a, 1, 1);
        x.jump(1, RETURN, a, 0, 0);
        x.mix(0);
        Checks.due("an IF with k twice", x.compress(), 2);
        x.jump(0, IF, a, 1, 2);
        x.jump(1, GO, 0, 1, 0);
        x.mix(0);
        Checks.due("a GO of the block itself", x.compress(), 3);
        FlowMixer y = new FlowMixer();
        int b = variable(y, 'a');
        y.jump(0, GO, 0, 2, 0);
        y.assign(2, 0, b);
        y.jump(2, GO, 0, 3, 0);
        y.jump(3, IF, b, 2, 3);
        y.mix(0);
        Checks.due("also gone to by an IF", y.compress(), 3);
    }

    private static void about() {
        FlowMixer x = power(2, 5);
        Checks.missing("no residual program", () -> x.about(0, 0));
        Checks.missing("no block ahead of what", () -> x.about(0, 5));
        x.mix(2);
        int[][] want = {{0, 1, 0, 1, -1}, {1, 0, 1, 2, 3}, {2, 2, 0, 1, -1}, {3, 0, 2, -1, -1}};
        for (int block = 0; block < 4; block++) {
            for (int what = 0; what < 5; what++) {
                Checks.due("about " + block + ", " + what, x.about(block, what), want[block][what]);
            }
        }
        Checks.missing("block -1", () -> x.about(-1, 0));
        Checks.missing("block 4", () -> x.about(4, 0));
        Checks.missing("block 4 ahead of what", () -> x.about(4, 9));
        Checks.argument("what -1", () -> x.about(0, -1));
        Checks.argument("what 5", () -> x.about(0, 5));
        x.mix(1);
        Checks.due("the block of a state", x.about(3, 0), 1);
        x.compress();
        Checks.due("compressed: the block of its state", x.about(0, 0), 0);
        Checks.due("compressed: assignments", x.about(0, 1), 3);
        Checks.due("compressed: kind", x.about(0, 2), 2);
        Checks.due("compressed: goes nowhere", x.about(0, 3), FlowMixer.NONE);
        Checks.missing("block 1 is gone", () -> x.about(1, 0));
    }

    private static void texts() {
        FlowMixer x = new FlowMixer();
        int h = variable(x, 'h');
        int low = number(x, LOWEST);
        int zero = number(x, 0);
        int node = x.node(2, h, low);
        node = x.node(3, zero, node);
        node = x.node(4, node, h);
        node = x.node(5, number(x, 1000000000), node);
        node = x.node(6, node, number(x, -10));
        x.assign(0, 0, node);
        x.assign(0, 7, x.node(4, low, low));
        x.jump(0, IF, h, 0, 0);
        x.mix(1);
        String want = "0:a=((1000000000=((0-(h+-2147483648))*h))<-10);h=0;?h,0,0;";
        Checks.due("all signs", Checks.text(x), want);
        Checks.due("length", x.count(2), want.length());
        Checks.missing("sign -1", () -> x.sign(-1));
        Checks.missing("sign behind the end", () -> x.sign(want.length()));
        Checks.missing("highest sign", () -> x.sign(HIGHEST));
        Checks.due("last sign", x.sign(want.length() - 1), (int) ';');
        x.clear(0);
        x.assign(0, 7, x.node(3, zero, zero));
        x.mix(255);
        Checks.due("an assignment to a static variable is not there", Checks.text(x), "0:!0;");
        x.mix(0);
        Checks.due("a part without variables is a number", Checks.text(x), "0:h=0;!0;");
    }

    private static void longText() {
        FlowMixer x = new FlowMixer();
        int h = variable(x, 'h');
        int low = number(x, LOWEST);
        int node = h;
        for (int i = 0; i < 29; i++) {
            node = x.node(2, node, low);
        }
        for (int i = 0; i < 9; i++) {
            x.assign(0, 0, node);
        }
        int g = variable(x, 'g');
        x.assign(0, 6, x.node(2, g, number(x, 1)));
        x.jump(0, IF, x.node(6, g, number(x, 99)), 0, 1);
        x.jump(1, RETURN, node, 0, 0);
        Checks.due("100 long blocks", x.mix(64), 100);
        int ofNode = 1 + 29 * (3 + 11);
        int jumps = lengthOfChain() - "99".length() + ofNode;
        Checks.due("length of a long text", x.count(2), 99 * 9 * (ofNode + 3) + jumps);
        Checks.missing("sign 3000", () -> x.sign(3000));
        Checks.due("compressed", x.compress(), 1);
        Checks.due("assignments of all", x.about(0, 1), 891);
        Checks.due("length of the text compressed", x.count(2), 2 + 891 * (ofNode + 3) + ofNode + 2);
        Checks.due("steps of all", x.follow(892), true);
        Checks.due("too few steps", x.follow(891), false);
    }

    private static void counts() {
        FlowMixer x = power(3, 5);
        Checks.argument("count -1", () -> x.count(-1));
        Checks.argument("count 4", () -> x.count(4));
        Checks.due("nodes", x.count(0), 6);
        Checks.due("no residual blocks", x.count(1), 0);
        Checks.due("no text", x.count(2), 0);
        Checks.due("greatest size", x.count(3), 3);
        x.mix(1);
        Checks.due("residual blocks", x.count(1), 9);
        Checks.due("text", x.count(2), 73);
        x.compress();
        Checks.due("residual blocks compressed", x.count(1), 1);
        Checks.due("text compressed", x.count(2), 33);
        x.node(2, 5, 4);
        Checks.due("a greater one", x.count(3), 7);
        x.node(0, 1, 1);
        Checks.due("the greatest so far", x.count(3), 7);
    }
}
