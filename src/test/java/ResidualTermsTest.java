/** The boundary cases that "Terms" names of mixing, compressing and the text, each sentence in a test of its own. */
public final class ResidualTermsTest {
    private static final int LOWEST = Integer.MIN_VALUE;
    private static final int HIGHEST = Integer.MAX_VALUE;

    private ResidualTermsTest() {
    }

    public static void main(String[] args) {
        stateHasStaticAndLive();
        stateHasWholeValues();
        firstStateIsBlock0WithTheInputs();
        statesAreNumberedAsTheyAreComeTo();
        staticAssignmentsAreDone();
        dynamicAssignmentsAreLeft();
        partsAsNumbers();
        goIsLeft();
        ifWithoutDynamicVariables();
        anotherIfIsLeft();
        returnIsLeft();
        hundredBlocks();
        hundredBlocksByAnIf();
        endlessStates();
        blockInPlaceOfAGo();
        block0Stays();
        justOneJump();
        ifWithKTwice();
        goOfAnotherBlock();
        lowestAgainAndAgain();
        numberedAnew();
        textOfBlocks();
        textOfJumps();
        textOfNumbers();
        textOfSigns();
        textOfTheGreatestNodes();
        Checks.end();
    }

    private static String mixed(Watched x, int known) {
        x.mix(known);
        return x.text();
    }

    private static String compressed(Watched x, int known) {
        x.mix(known);
        x.compress();
        return x.text();
    }

    /** "a STATE is a block, and the values of the variables that are static and live in it". */
    private static void stateHasStaticAndLive() {
        Watched x = new Watched();
        int a = x.variable('a');
        int b = x.variable('b');
        x.either(0, b, 1, 2);
        x.assign(1, 0, x.number(1));
        x.go(1, 3);
        x.assign(2, 0, x.number(2));
        x.go(2, 3);
        x.giveBack(3, a);
        Checks.due("static and live: two states of block 3", mixed(x, 1), "0:?b,1,2;1:^3;2:^4;3:!1;4:!2;");
        Checks.due("live, but dynamic: one state", mixed(x, 0), "0:?b,1,2;1:a=1;^3;2:a=2;^3;3:!a;");
        x.giveBack(3, b);
        Checks.due("static, but not live: one state", mixed(x, 1), "0:?b,1,2;1:^3;2:^3;3:!b;");
        x.giveBack(3, a);
        x.assign(3, 0, x.number(3));
        Checks.due("assigned ahead, so not live: one state", mixed(x, 1), "0:?b,1,2;1:^3;2:^3;3:!3;");
        x.clear(2);
        x.assign(2, 0, x.number(1));
        x.go(2, 3);
        x.clear(3);
        x.giveBack(3, a);
        Checks.due("the same value: one state", mixed(x, 1), "0:?b,1,2;1:^3;2:^3;3:!1;");
    }

    /** States differ by each variable, and by the whole of its value. */
    private static void stateHasWholeValues() {
        int[] others = {1, -1, 256, 65536, LOWEST, HIGHEST};
        for (int v = 1; v < 8; v++) {
            for (int other : others) {
                Watched x = new Watched();
                int a = x.variable('a');
                int node = x.node(1, v, 0);
                x.either(0, a, 1, 2);
                x.assign(1, v, x.number(0));
                x.go(1, 3);
                x.assign(2, v, x.number(other));
                x.go(2, 3);
                x.giveBack(3, node);
                Checks.due("0 and " + other + " of " + v, mixed(x, 254), "0:?a,1,2;1:^3;2:^4;3:!0;4:!" + other + ";");
            }
        }
    }

    /** "The first one is block 0 with the inputs". */
    private static void firstStateIsBlock0WithTheInputs() {
        Watched x = new Watched();
        int a = x.variable('a');
        Checks.due("an empty block 0", mixed(x, 255), "0:!0;");
        x.giveBack(0, a);
        x.input(0, LOWEST);
        Checks.due("the lowest input", mixed(x, 1), "0:!-2147483648;");
        x.input(0, HIGHEST);
        Checks.due("the highest input", mixed(x, 1), "0:!2147483647;");
        x.go(0, 0);
        Checks.due("back to it", mixed(x, 1), "0:^0;");
        x.clear(0);
        x.assign(0, 0, x.node(3, x.number(0), a));
        x.go(0, 0);
        x.input(0, 5);
        Checks.due("block 0 with another value, and back", mixed(x, 1), "0:^1;1:^0;");
    }

    /** "states are numbered in the order in which they are come to, and worked out by number". */
    private static void statesAreNumberedAsTheyAreComeTo() {
        Watched x = new Watched();
        int a = x.variable('a');
        x.either(0, a, 9, 4);
        x.either(9, a, 15, 4);
        x.either(4, a, 1, 15);
        x.go(15, 2);
        x.go(1, 0);
        Checks.due("breadth first", mixed(x, 0), "0:?a,1,2;1:?a,3,2;2:?a,4,3;3:^5;4:^0;5:!0;");
        int[] blocks = {0, 9, 4, 15, 1, 2};
        for (int k = 0; k < blocks.length; k++) {
            Checks.due("block of state " + k, x.about(k, 0), blocks[k]);
        }
    }

    /** "assignments to static variables are done". */
    private static void staticAssignmentsAreDone() {
        Watched x = new Watched();
        int a = x.variable('a');
        int twice = x.node(2, a, a);
        for (int i = 0; i < 10; i++) {
            x.assign(0, 0, twice);
        }
        x.giveBack(0, a);
        x.input(0, 3);
        Checks.due("all ten", mixed(x, 1), "0:!3072;");
        Checks.due("none is left", x.about(0, 1), 0);
        x.input(0, 1 << 22);
        Checks.due("wrapping", mixed(x, 1), "0:!0;");
    }

    /** "those to dynamic ones are left". */
    private static void dynamicAssignmentsAreLeft() {
        Watched x = new Watched();
        int b = x.variable('b');
        for (int i = 0; i < 10; i++) {
            x.assign(0, 0, b);
        }
        Checks.due("all ten, though not used", mixed(x, 1), "0:a=b;a=b;a=b;a=b;a=b;a=b;a=b;a=b;a=b;a=b;!0;");
        Checks.due("with a number each", mixed(x, 2), "0:a=0;a=0;a=0;a=0;a=0;a=0;a=0;a=0;a=0;a=0;!0;");
        Checks.due("ten are left", x.about(0, 1), 10);
    }

    /** "their nodes with each part that has static variables (or none) only as its number". */
    private static void partsAsNumbers() {
        Watched x = new Watched();
        int a = x.variable('a');
        int b = x.variable('b');
        int one = x.number(1);
        int none = x.node(2, one, one);
        int known = x.node(4, a, none);
        x.input(0, 7);
        x.giveBack(0, x.node(3, known, x.node(2, b, known)));
        Checks.due("the greatest such parts", mixed(x, 1), "0:!(14-(b+14));");
        Checks.due("parts without variables", mixed(x, 0), "0:!((a*2)-(b+(a*2)));");
        Checks.due("the whole", mixed(x, 3), "0:!0;");
        x.giveBack(0, x.node(4, b, x.number(0)));
        Checks.due("no part with a dynamic variable", mixed(x, 1), "0:!(b*0);");
        x.giveBack(0, x.node(5, b, b));
        Checks.due("not even the same on both sides", mixed(x, 1), "0:!(b=b);");
        x.giveBack(0, none);
        Checks.due("without variables, nothing known", mixed(x, 0), "0:!2;");
    }

    /** "a GO is left as a GO to the state of the block it goes to". */
    private static void goIsLeft() {
        Watched x = new Watched();
        x.go(0, 15);
        x.go(15, 0);
        Checks.due("to the last block and back", mixed(x, 0), "0:^1;1:^0;");
    }

    /** "or an IF of a node without dynamic variables, is left as a GO": the other block is not come to. */
    private static void ifWithoutDynamicVariables() {
        Watched x = new Watched();
        int a = x.variable('a');
        x.giveBack(1, x.number(11));
        x.giveBack(2, x.number(22));
        x.either(0, a, 1, 2);
        Checks.due("0, static", mixed(x, 1), "0:^1;1:!22;");
        x.input(0, LOWEST);
        Checks.due("not 0, static", mixed(x, 1), "0:^1;1:!11;");
        Checks.due("dynamic", mixed(x, 0), "0:?a,1,2;1:!11;2:!22;");
        x.either(0, x.number(0), 1, 2);
        Checks.due("the number 0", mixed(x, 0), "0:^1;1:!22;");
        x.either(0, x.number(-1), 1, 2);
        Checks.due("another number", mixed(x, 0), "0:^1;1:!11;");
        x.either(0, x.node(4, a, x.number(0)), 1, 2);
        Checks.due("0 times a dynamic variable is no number", mixed(x, 0), "0:?(a*0),1,2;1:!11;2:!22;");
    }

    /** "another IF is left, with its states, that of the first block being come to first". */
    private static void anotherIfIsLeft() {
        Watched x = new Watched();
        int a = x.variable('a');
        x.either(0, a, 2, 1);
        Checks.due("the first block first", mixed(x, 0), "0:?a,1,2;1:!0;2:!0;");
        Checks.due("which is block 2", x.about(1, 0), 2);
        x.either(0, a, 1, 1);
        Checks.due("the same block twice is one state", mixed(x, 0), "0:?a,1,1;1:!0;");
        x.either(0, a, 0, 0);
        Checks.due("to itself twice", mixed(x, 0), "0:?a,0,0;");
    }

    /** "a RETURN is left". */
    private static void returnIsLeft() {
        Watched x = new Watched();
        x.giveBack(0, x.node(6, x.variable('a'), x.variable('h')));
        x.input(7, -3);
        Checks.due("dynamic", mixed(x, 0), "0:!(a<h);");
        Checks.due("half", mixed(x, 128), "0:!(a<-3);");
        Checks.due("static", mixed(x, 129), "0:!0;");
    }

    /** "If there would be more than 100, nothing comes of it." */
    private static void hundredBlocks() {
        Watched x = new Watched();
        x.countUp(98);
        Checks.due("99", x.mix(128), 99);
        x.input(7, -1);
        Checks.due("100", x.mix(128), 100);
        Checks.due("the last one goes nowhere", x.about(99, 3), FlowMixer.NONE);
        Checks.due("the one ahead of it", x.about(98, 3), 99);
        x.input(7, -2);
        Checks.due("101", x.mix(128), FlowMixer.NONE);
        Checks.due("the 100 stay", x.count(1), 100);
        Checks.due("they return", x.follow(100), true);
        Checks.due("after 100 steps", x.result(1), 100);
        x.input(7, 97);
        Checks.due("a later one is there instead", x.mix(128), 2);
    }

    /** 98 states of block 0 and one of block 1; then the IF of block 1 comes to others. */
    private static void hundredBlocksByAnIf() {
        Watched x = new Watched();
        x.countUp(98);
        int a = x.variable('a');
        x.either(1, a, 2, 2);
        Checks.due("one more, twice", x.mix(128), 100);
        x.either(1, a, 2, 1);
        Checks.due("one more, and itself", x.mix(128), 100);
        x.either(1, a, 1, 2);
        Checks.due("itself, and one more", x.mix(128), 100);
        x.either(1, a, 2, 3);
        Checks.due("two more", x.mix(128), FlowMixer.NONE);
        Checks.due("what was there stays", x.about(98, 3) * 1000 + x.about(98, 4), 98099);
        x.input(7, 1);
        Checks.due("two more, one of the others less", x.mix(128), 100);
        Checks.due("both are there", x.about(97, 3) * 1000 + x.about(97, 4), 98099);
    }

    private static void endlessStates() {
        Watched x = new Watched();
        x.assign(0, 0, x.node(2, x.variable('a'), x.number(1)));
        x.go(0, 0);
        Checks.due("values without end", x.mix(1), FlowMixer.NONE);
        Checks.due("no residual program", x.count(1), 0);
        Checks.due("dynamic, it is one block", mixed(x, 0), "0:a=(a+1);^0;");
        Checks.due("again too many", x.mix(1), FlowMixer.NONE);
        Checks.due("so that one stays", x.text(), "0:a=(a+1);^0;");
    }

    /** "comes in place of that GO". */
    private static void blockInPlaceOfAGo() {
        Watched x = new Watched();
        int a = x.variable('a');
        int b = x.variable('b');
        x.assign(0, 0, b);
        x.go(0, 1);
        x.assign(1, 1, a);
        x.giveBack(1, b);
        Checks.due("assignments on both sides", compressed(x, 0), "0:a=b;b=a;!b;");
        x.clear(0);
        x.go(0, 1);
        Checks.due("none ahead", compressed(x, 0), "0:b=a;!b;");
        x.clear(1);
        x.assign(0, 0, b);
        Checks.due("none behind", compressed(x, 0), "0:a=b;!0;");
        x.clear(0);
        x.go(0, 1);
        Checks.due("none at all", compressed(x, 0), "0:!0;");
        x.either(1, a, 0, 1);
        Checks.due("its own IF goes to it too", compressed(x, 0), "0:^1;1:?a,0,1;");
        x.either(1, a, 0, 2);
        Checks.due("an IF comes in place", compressed(x, 0), "0:?a,0,1;1:!0;");
        blocksInPlaceOfOneAnother();
    }

    /** Blocks with and without assignments in a row, behind an IF. */
    private static void blocksInPlaceOfOneAnother() {
        Watched x = new Watched();
        int a = x.variable('a');
        x.either(0, a, 1, 2);
        for (int block = 1; block < 14; block++) {
            x.go(block, block + 2);
        }
        for (int block : new int[] {2, 3, 4, 8, 9, 10, 15}) {
            x.assign(block, block % 8, a);
            x.assign(block, 7, a);
        }
        Checks.due("two rows", compressed(x, 0), "0:?a,1,2;1:d=a;h=a;b=a;h=a;h=a;h=a;!0;2:c=a;h=a;e=a;h=a;a=a;h=a;c=a;h=a;!0;");
        Checks.due("one is followed", x.follow(5000), true);
        Checks.due("its steps", x.result(1), 10);
    }

    /** "a residual block k but 0". */
    private static void block0Stays() {
        Watched x = new Watched();
        int a = x.variable('a');
        x.either(0, a, 1, 2);
        x.go(1, 0);
        Checks.due("just one GO goes to 0", compressed(x, 0), "0:?a,1,2;1:^0;2:!0;");
        x.go(0, 0);
        Checks.due("its own GO goes to 0", compressed(x, 0), "0:^0;");
        x.go(0, 1);
        Checks.due("0 and 1 in turn", compressed(x, 0), "0:^0;");
    }

    /** "to which just one jump goes". */
    private static void justOneJump() {
        Watched x = new Watched();
        int a = x.variable('a');
        x.either(0, a, 1, 2);
        x.go(1, 3);
        x.go(2, 3);
        Checks.due("two GOs", compressed(x, 0), "0:?a,1,2;1:^3;2:^3;3:!0;");
        x.go(2, 4);
        Checks.due("one GO each", compressed(x, 0), "0:?a,1,2;1:!0;2:!0;");
        x.either(2, a, 3, 4);
        Checks.due("a GO and an IF", compressed(x, 0), "0:?a,1,2;1:^3;2:?a,3,4;3:!0;4:!0;");
        x.either(2, a, 4, 3);
        Checks.due("a GO and an IF's other side", compressed(x, 0), "0:?a,1,2;1:^3;2:?a,4,3;3:!0;4:!0;");
        Watched y = new Watched();
        int b = y.variable('a');
        y.either(0, b, 1, 2);
        y.go(1, 4);
        y.either(2, b, 3, 4);
        y.go(3, 4);
        Checks.due("two GOs and an IF's other side", compressed(y, 0), "0:?a,1,2;1:^3;2:?a,4,3;3:!0;4:^3;");
        y.either(2, b, 4, 3);
        Checks.due("two GOs and an IF's first side", compressed(y, 0), "0:?a,1,2;1:^3;2:?a,3,4;3:!0;4:^3;");
        x.giveBack(2, a);
        x.either(0, a, 2, 2);
        x.go(1, 2);
        Checks.due("a block that is not come to does not count", compressed(x, 0), "0:?a,1,1;1:!a;");
    }

    /** "(an IF with k twice goes twice)". */
    private static void ifWithKTwice() {
        Watched x = new Watched();
        int a = x.variable('a');
        x.either(0, a, 1, 1);
        x.go(1, 2);
        Checks.due("1 stays, 2 comes in place", compressed(x, 0), "0:?a,1,1;1:!0;");
        Checks.due("an IF alone", x.compress(), 2);
    }

    /** "a GO of another block": not of an IF, not of the block itself. */
    private static void goOfAnotherBlock() {
        Watched x = new Watched();
        int a = x.variable('a');
        x.either(0, a, 1, 2);
        x.go(1, 1);
        x.go(2, 0);
        Checks.due("an IF's jump, and one of its own", compressed(x, 0), "0:?a,1,2;1:^1;2:^0;");
        x.go(0, 1);
        Checks.due("a GO from without, and one of its own", compressed(x, 0), "0:^1;1:^1;");
    }

    /** "the lowest such k first, again and again till there is none". */
    private static void lowestAgainAndAgain() {
        Watched x = new Watched();
        int a = x.variable('a');
        for (int block = 0; block < 15; block++) {
            x.assign(block, block % 8, a);
            x.go(block, block + 1);
        }
        Checks.due("all into one", compressed(x, 0),
                "0:a=a;b=a;c=a;d=a;e=a;f=a;g=a;h=a;a=a;b=a;c=a;d=a;e=a;f=a;g=a;!0;");
        Checks.due("fifteen assignments in a block", x.about(0, 1), 15);
        Watched y = new Watched();
        y.countUp(99);
        Checks.due("100 blocks", y.mix(128), 100);
        Checks.due("into one", y.compress(), 1);
        Checks.due("text of one", y.text(), "0:!0;");
        Checks.due("again", y.compress(), 1);
        Watched z = new Watched();
        int b = z.variable('a');
        z.either(0, b, 1, 2);
        z.either(1, b, 3, 4);
        z.giveBack(2, b);
        z.go(3, 5);
        z.go(4, 6);
        z.go(5, 7);
        z.go(6, 8);
        z.assign(7, 1, b);
        z.assign(8, 2, b);
        Checks.due("two chains", compressed(z, 0), "0:?a,1,2;1:?a,3,4;2:!a;3:b=a;!0;4:c=a;!0;");
    }

    /** "Then blocks are numbered anew, in the order of their numbers." */
    private static void numberedAnew() {
        Watched x = new Watched();
        int a = x.variable('a');
        x.go(0, 1);
        x.either(1, a, 2, 3);
        x.go(2, 4);
        x.go(3, 5);
        x.either(4, a, 6, 1);
        x.either(5, a, 6, 0);
        x.assign(3, 3, a);
        x.assign(5, 5, a);
        x.assign(6, 6, a);
        Checks.due("seven", x.mix(0), 7);
        Checks.due("five", x.compress(), 5);
        Checks.due("numbered anew", x.text(), "0:^1;1:?a,2,3;2:?a,4,1;3:d=a;f=a;?a,4,0;4:g=a;!0;");
        int[] blocks = {0, 1, 2, 3, 6};
        int[] assignments = {0, 0, 0, 2, 1};
        for (int k = 0; k < 5; k++) {
            Checks.due("block of " + k, x.about(k, 0), blocks[k]);
            Checks.due("assignments of " + k, x.about(k, 1), assignments[k]);
        }
        Checks.due("where the IF goes first", x.about(3, 3), 4);
        Checks.due("where the IF goes else", x.about(3, 4), 0);
    }

    /** "block by block: its number, ":", each assignment as the variable's letter, "=", its node, ";"". */
    private static void textOfBlocks() {
        Watched x = new Watched();
        int a = x.variable('a');
        int h = x.variable('h');
        Checks.due("nothing", x.text(), "");
        Checks.due("the shortest", mixed(x, 0), "0:!0;");
        for (int block = 0; block < 11; block++) {
            x.go(block, block + 1);
        }
        x.assign(9, 0, h);
        x.assign(10, 7, a);
        Checks.due("numbers of two digits", mixed(x, 0),
                "0:^1;1:^2;2:^3;3:^4;4:^5;5:^6;6:^7;7:^8;8:^9;9:a=h;^10;10:h=a;^11;11:!0;");
        Watched y = new Watched();
        y.countUp(99);
        y.mix(128);
        StringBuilder want = new StringBuilder();
        for (int block = 0; block < 99; block++) {
            want.append(block).append(":^").append(block + 1).append(';');
        }
        want.append("99:!0;");
        Checks.due("length of 100 blocks", y.count(2), want.length());
        for (int i = want.length() - 400; i < want.length(); i++) {
            Checks.due("sign " + i + " of 100 blocks", y.sign(i), (int) want.charAt(i));
        }
    }

    /** "then the jump: "^" and a number, "?" a node "," a number "," a number, or "!" a node; then ";"". */
    private static void textOfJumps() {
        Watched x = new Watched();
        x.either(0, x.variable('h'), 15, 0);
        x.go(15, 14);
        x.giveBack(14, x.variable('a'));
        Checks.due("all three", mixed(x, 0), "0:?h,1,0;1:^2;2:!a;");
    }

    /** "a number's digits ("-" ahead if it is below 0)". */
    private static void textOfNumbers() {
        int[] values = {0, 1, 9, 10, 11, 99, 100, 101, 999, 1000, 99999, 100000, 999999999, 1000000000, HIGHEST};
        Watched x = new Watched();
        int a = x.variable('a');
        x.giveBack(0, a);
        for (int value : values) {
            x.input(0, value);
            Checks.due("text of " + value, mixed(x, 1), "0:!" + value + ";");
        }
        Watched y = new Watched();
        y.giveBack(0, y.variable('a'));
        for (int value : values) {
            y.input(0, ~value);
            Checks.due("text of " + ~value, mixed(y, 1), "0:!" + ~value + ";");
        }
        y.input(0, LOWEST);
        Checks.due("text of the lowest", mixed(y, 1), "0:!-2147483648;");
    }

    /** "or "(" part sign part ")", with the signs + - * = <". */
    private static void textOfSigns() {
        Watched x = new Watched();
        int b = x.variable('b');
        int node = x.variable('a');
        for (int kind = 2; kind <= 6; kind++) {
            node = x.node(kind, node, b);
        }
        x.giveBack(0, node);
        Checks.due("to the left", mixed(x, 0), "0:!(((((a+b)-b)*b)=b)<b);");
        node = x.number(-1);
        for (int kind = 2; kind <= 6; kind++) {
            node = x.node(kind, b, node);
        }
        x.giveBack(0, node);
        Checks.due("to the right", mixed(x, 0), "0:!(b<(b=(b*(b-(b+-1)))));");
    }

    private static void textOfTheGreatestNodes() {
        Watched x = new Watched();
        int a = x.variable('a');
        int h = x.variable('h');
        x.giveBack(0, x.chain(a, 30));
        StringBuilder want = new StringBuilder("a");
        for (int i = 1; i < 30; i++) {
            want.insert(0, '(').append("+a)");
        }
        Checks.due("30 levels", mixed(x, 0), "0:!" + want + ";");
        int node = a;
        want = new StringBuilder("a");
        for (int i = 1; i < 30; i++) {
            node = x.node(3, h, node);
            want.insert(0, "(5-").append(')');
        }
        x.giveBack(0, node);
        x.input(7, 5);
        Checks.due("30 levels to the right", mixed(x, 128), "0:!" + want + ";");
    }
}
