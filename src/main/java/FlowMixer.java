import java.util.Arrays;
import java.util.NoSuchElementException;

/**
 * Works out a program of blocks, jumps and variables as far as some of its inputs are known,
 * and keeps a residual program for the others.
 *
 * All rows are made by the constructor and used again, so that no call makes an object
 * (but for an exception that it throws).
 */
public final class FlowMixer {
    public static final int NONE = -1;

    private static final int VARIABLES = 8;
    private static final int ALL_VARIABLES = 255;

    private static final int NUMBER = 0;
    private static final int VARIABLE = 1;
    private static final int PLUS = 2;
    private static final int LESS = 3;
    private static final int TIMES = 4;
    private static final int SAME = 5;
    private static final int BELOW = 6;

    private static final int MOST_NODES = 150;
    private static final int LARGEST_SIZE = 60;
    // A node of size 60 at most has 30 levels at most; no recursion over parts goes deeper.
    private static final int DEEPEST = 40;
    // The slot behind those of all nodes stays the number 0: what a block returns at first.
    private static final int ZERO = MOST_NODES;

    private static final int GO = 0;
    private static final int IF = 1;
    private static final int RETURN = 2;

    private static final int BLOCKS = 16;
    private static final int MOST_RESIDUAL_BLOCKS = 100;
    private static final int MOST_ASSIGNMENTS = 10;
    private static final int STEPS_OF_BLOCK = MOST_ASSIGNMENTS + 1;
    private static final int MOST_STEPS = 5000;

    private static final int SIGNS_KEPT = 3000;
    private static final String NODE_SIGNS = "+-*=<";

    private final Nodes nodes;
    private final Flow program;
    private final int[] inputs;
    private final Analysis analysis;
    private final Machine machine;
    private final Mixer mixer;
    private final Compressor compressor;
    private final Text text;
    private Flow residual;
    private Flow spare;

    public FlowMixer() {
        nodes = new Nodes();
        program = new Flow(BLOCKS, BLOCKS);
        inputs = new int[VARIABLES];
        analysis = new Analysis();
        machine = new Machine();
        mixer = new Mixer();
        compressor = new Compressor();
        text = new Text();
        residual = new Flow(MOST_RESIDUAL_BLOCKS, 0);
        spare = new Flow(MOST_RESIDUAL_BLOCKS, 0);
    }

    public int node(int kind, int a, int b) throws NoSuchElementException, IllegalStateException {
        if (!nodes.canBe(kind, a, b)) {
            throw new NoSuchElementException("no such kind, variable or node");
        }
        if (nodes.made >= MOST_NODES || nodes.sizeWith(kind, a, b) > LARGEST_SIZE) {
            throw new IllegalStateException("too many nodes, or too large a node");
        }
        return nodes.add(kind, a, b);
    }

    public int assign(int block, int variable, int node) throws NoSuchElementException, IllegalStateException {
        if (!isBlock(block) || !isVariable(variable) || !nodes.has(node)) {
            throw new NoSuchElementException("no such block, variable or node");
        }
        if (program.counts[block] >= MOST_ASSIGNMENTS) {
            throw new IllegalStateException("the block has all its assignments");
        }
        program.append(block, variable, node);
        return program.counts[block];
    }

    public void jump(int block, int kind, int node, int one, int other) throws NoSuchElementException {
        if (!isBlock(block) || !canJump(kind, node, one, other)) {
            throw new NoSuchElementException("no such block, kind or node");
        }
        program.setJump(block, kind, kind == GO ? ZERO : node);
        program.setTargets(block, kind == RETURN ? NONE : one, kind == IF ? other : NONE);
    }

    public int clear(int block) throws NoSuchElementException {
        if (!isBlock(block)) {
            throw new NoSuchElementException("no such block");
        }
        int had = program.counts[block];
        program.makeEmpty(block, block);
        return had;
    }

    public int input(int variable, int v) throws NoSuchElementException {
        if (!isVariable(variable)) {
            throw new NoSuchElementException("no such variable");
        }
        int before = inputs[variable];
        inputs[variable] = v;
        return before;
    }

    public boolean run(int n) throws IllegalArgumentException {
        if (!isStepLimit(n)) {
            throw new IllegalArgumentException("not 0 to 5000 steps");
        }
        return machine.travel(nodes, program, inputs, n);
    }

    public boolean follow(int n) throws IllegalArgumentException, IllegalStateException {
        if (!isStepLimit(n)) {
            throw new IllegalArgumentException("not 0 to 5000 steps");
        }
        if (residual.size == 0) {
            throw new IllegalStateException("no residual program");
        }
        return machine.travel(nodes, residual, inputs, n);
    }

    public int result(int what) throws IllegalArgumentException {
        switch (what) {
            case 0:
                return machine.returned;
            case 1:
                return machine.steps;
            case 2:
                return machine.block;
            default:
                throw new IllegalArgumentException("not 0 to 2");
        }
    }

    public int divide(int known) throws IllegalArgumentException {
        if (!isVariableSet(known)) {
            throw new IllegalArgumentException("not 0 to 255");
        }
        return analysis.findStatics(nodes, program, known);
    }

    public int live(int block) throws NoSuchElementException {
        if (!isBlock(block)) {
            throw new NoSuchElementException("no such block");
        }
        analysis.findLives(nodes, program);
        return analysis.lives[block];
    }

    public int mix(int known) throws IllegalArgumentException {
        if (!isVariableSet(known)) {
            throw new IllegalArgumentException("not 0 to 255");
        }
        analysis.findLives(nodes, program);
        spare.statics = analysis.findStatics(nodes, program, known);
        // The spare flow is worked on, so that the residual program stays if nothing comes of it.
        if (!mixer.work(nodes, program, analysis.lives, inputs, spare)) {
            return NONE;
        }
        Flow old = residual;
        residual = spare;
        spare = old;
        text.stale = true;
        return residual.size;
    }

    public int compress() throws IllegalStateException {
        if (residual.size == 0) {
            throw new IllegalStateException("no residual program");
        }
        compressor.work(residual);
        text.stale = true;
        return residual.size;
    }

    public int about(int block, int what) throws NoSuchElementException, IllegalArgumentException {
        if (block < 0 || block >= residual.size) {
            throw new NoSuchElementException("no such residual block");
        }
        int jump = residual.jumps[block];
        switch (what) {
            case 0:
                return residual.origins[block];
            case 1:
                return residual.counts[block];
            case 2:
                return residual.kinds[jump];
            case 3:
                return residual.ones[jump];
            case 4:
                return residual.others[jump];
            default:
                throw new IllegalArgumentException("not 0 to 4");
        }
    }

    public int sign(int i) throws NoSuchElementException {
        text.refresh(nodes, residual);
        if (i < 0 || i >= text.length || i >= SIGNS_KEPT) {
            throw new NoSuchElementException("no such sign");
        }
        return text.signs[i];
    }

    public int count(int what) throws IllegalArgumentException {
        switch (what) {
            case 0:
                return nodes.made;
            case 1:
                return residual.size;
            case 2:
                text.refresh(nodes, residual);
                return text.length;
            case 3:
                return nodes.greatest;
            default:
                throw new IllegalArgumentException("not 0 to 3");
        }
    }

    private boolean canJump(int kind, int node, int one, int other) {
        switch (kind) {
            case GO:
                return isBlock(one);
            case IF:
                return nodes.has(node) && isBlock(one) && isBlock(other);
            case RETURN:
                return nodes.has(node);
            default:
                return false;
        }
    }

    private static boolean isBlock(int block) {
        return block >= 0 && block < BLOCKS;
    }

    private static boolean isVariable(int variable) {
        return variable >= 0 && variable < VARIABLES;
    }

    private static boolean isVariableSet(int bits) {
        return bits >= 0 && bits <= ALL_VARIABLES;
    }

    private static boolean isStepLimit(int n) {
        return n >= 0 && n <= MOST_STEPS;
    }

    /** The expressions, each made of ones ahead of it. */
    private static final class Nodes {
        private final int[] kinds = new int[MOST_NODES + 1];
        private final int[] firsts = new int[MOST_NODES + 1];
        private final int[] seconds = new int[MOST_NODES + 1];
        private final int[] sizes = new int[MOST_NODES + 1];
        // The variables that are in a node, as bits.
        private final int[] variables = new int[MOST_NODES + 1];
        private int made;
        private int greatest;

        private boolean has(int node) {
            return node >= 0 && node < made;
        }

        private boolean canBe(int kind, int a, int b) {
            if (kind == NUMBER) {
                return true;
            }
            if (kind == VARIABLE) {
                return isVariable(a);
            }
            return kind >= PLUS && kind <= BELOW && has(a) && has(b);
        }

        private int sizeWith(int kind, int a, int b) {
            return kind <= VARIABLE ? 1 : 1 + sizes[a] + sizes[b];
        }

        private int variablesWith(int kind, int a, int b) {
            if (kind == NUMBER) {
                return 0;
            }
            return kind == VARIABLE ? 1 << a : variables[a] | variables[b];
        }

        private int add(int kind, int a, int b) {
            int node = made;
            kinds[node] = kind;
            firsts[node] = a;
            seconds[node] = b;
            sizes[node] = sizeWith(kind, a, b);
            variables[node] = variablesWith(kind, a, b);
            greatest = Math.max(greatest, sizes[node]);
            made = node + 1;
            return node;
        }

        private int valueOf(int node, int[] values, int depth) {
            int kind = kinds[node];
            if (kind == NUMBER) {
                return firsts[node];
            }
            if (kind == VARIABLE) {
                return values[firsts[node]];
            }
            if (depth > DEEPEST) {
                return 0;
            }
            int left = valueOf(firsts[node], values, depth + 1);
            int right = valueOf(seconds[node], values, depth + 1);
            return combine(kind, left, right);
        }

        private static int combine(int kind, int left, int right) {
            switch (kind) {
                case PLUS:
                    return left + right;
                case LESS:
                    return left - right;
                case TIMES:
                    return left * right;
                case SAME:
                    return left == right ? 1 : 0;
                default:
                    return left < right ? 1 : 0;
            }
        }
    }

    /**
     * The blocks of the program, or of the residual program.
     *
     * A residual node is held as the program's node and the values that its static variables
     * had (frozen with the step it is in): a node never changes once it is made, so this
     * takes far fewer fields than a tree of its own for each step.
     */
    private static final class Flow {
        private int size;
        // The variables whose values are frozen, as bits: none in the program.
        private int statics;

        // By block. Its assignments are a chain of steps, so that a block can be put behind another one.
        private final int[] origins;
        private final int[] counts;
        private final int[] firsts;
        private final int[] lasts;
        private final int[] jumps;

        // By jump.
        private final int[] kinds;
        private final int[] ones;
        private final int[] others;

        // By step: an assignment or a jump.
        private final int[] variables;
        private final int[] nodes;
        private final int[] nexts;
        private final int[] frozen;

        private Flow(int most, int used) {
            origins = new int[most];
            counts = new int[most];
            firsts = new int[most];
            lasts = new int[most];
            jumps = new int[most];
            kinds = new int[most];
            ones = new int[most];
            others = new int[most];
            variables = new int[most * STEPS_OF_BLOCK];
            nodes = new int[most * STEPS_OF_BLOCK];
            nexts = new int[most * STEPS_OF_BLOCK];
            frozen = new int[most * STEPS_OF_BLOCK * VARIABLES];
            size = used;
            for (int block = 0; block < used; block++) {
                makeEmpty(block, block);
            }
        }

        private void makeEmpty(int block, int origin) {
            origins[block] = origin;
            counts[block] = 0;
            jumps[block] = block;
            setJump(block, RETURN, ZERO);
            setTargets(block, NONE, NONE);
        }

        /** Puts an assignment behind the others: which step it is. */
        private int append(int block, int variable, int node) {
            int step = block * STEPS_OF_BLOCK + counts[block];
            variables[step] = variable;
            nodes[step] = node;
            if (counts[block] == 0) {
                firsts[block] = step;
            } else {
                nexts[lasts[block]] = step;
            }
            lasts[block] = step;
            counts[block]++;
            return step;
        }

        private void setJump(int block, int kind, int node) {
            kinds[jumps[block]] = kind;
            nodes[jumpStep(block)] = node;
        }

        private void setTargets(int block, int one, int other) {
            ones[jumps[block]] = one;
            others[jumps[block]] = other;
        }

        private int jumpStep(int block) {
            return jumps[block] * STEPS_OF_BLOCK + MOST_ASSIGNMENTS;
        }

        private void freeze(int step, int[] values) {
            System.arraycopy(values, 0, frozen, step * VARIABLES, VARIABLES);
        }

        /** Puts the static variables' values at a step among the others. */
        private void thaw(int step, int[] values) {
            if (statics == 0) {
                return;
            }
            for (int v = 0; v < VARIABLES; v++) {
                if ((statics >> v & 1) != 0) {
                    values[v] = frozen[step * VARIABLES + v];
                }
            }
        }

        /** Puts a block in place of another one's jump. */
        private void join(int block, int behind) {
            if (counts[behind] > 0) {
                if (counts[block] == 0) {
                    firsts[block] = firsts[behind];
                } else {
                    nexts[lasts[block]] = firsts[behind];
                }
                lasts[block] = lasts[behind];
                counts[block] += counts[behind];
            }
            jumps[block] = jumps[behind];
        }

        private void renumber(int block, int number) {
            origins[number] = origins[block];
            counts[number] = counts[block];
            firsts[number] = firsts[block];
            lasts[number] = lasts[block];
            jumps[number] = jumps[block];
        }
    }

    /** Which variables are static, and which are live. */
    private static final class Analysis {
        private final int[] lives = new int[BLOCKS];

        private int findStatics(Nodes nodes, Flow program, int known) {
            int dynamics = ALL_VARIABLES & ~known;
            // Each round but the last one finds one more variable at least.
            for (int round = 0; round < VARIABLES; round++) {
                int before = dynamics;
                for (int block = 0; block < program.size; block++) {
                    dynamics = withDynamicsOf(nodes, program, block, dynamics);
                }
                if (dynamics == before) {
                    break;
                }
            }
            return ALL_VARIABLES & ~dynamics;
        }

        private static int withDynamicsOf(Nodes nodes, Flow program, int block, int dynamics) {
            int found = dynamics;
            int step = program.firsts[block];
            for (int i = 0; i < program.counts[block]; i++) {
                if ((nodes.variables[program.nodes[step]] & found) != 0) {
                    found |= 1 << program.variables[step];
                }
                step = program.nexts[step];
            }
            return found;
        }

        private void findLives(Nodes nodes, Flow program) {
            Arrays.fill(lives, 0);
            // A way that comes to no block twice has fewer jumps than there are blocks.
            for (int round = 0; round < BLOCKS; round++) {
                boolean changed = false;
                for (int block = BLOCKS - 1; block >= 0; block--) {
                    int live = livesOf(nodes, program, block);
                    changed = changed || live != lives[block];
                    lives[block] = live;
                }
                if (!changed) {
                    break;
                }
            }
        }

        private int livesOf(Nodes nodes, Flow program, int block) {
            int assigned = 0;
            int found = 0;
            int step = program.firsts[block];
            for (int i = 0; i < program.counts[block]; i++) {
                found |= nodes.variables[program.nodes[step]] & ~assigned;
                assigned |= 1 << program.variables[step];
                step = program.nexts[step];
            }
            int behind = nodes.variables[program.nodes[program.jumpStep(block)]]
                    | livesAt(program.ones[program.jumps[block]])
                    | livesAt(program.others[program.jumps[block]]);
            return found | behind & ~assigned;
        }

        private int livesAt(int target) {
            return target == NONE ? 0 : lives[target];
        }
    }

    /** Runs a flow, and keeps what came of it. */
    private static final class Machine {
        private final int[] values = new int[VARIABLES];
        private int returned;
        private int steps;
        private int block;

        private boolean travel(Nodes nodes, Flow flow, int[] inputs, int limit) {
            System.arraycopy(inputs, 0, values, 0, VARIABLES);
            returned = 0;
            steps = 0;
            block = 0;
            // A visit of a block takes one step at least, that of its jump.
            for (int visit = 0; visit < limit; visit++) {
                doAssignments(nodes, flow, limit);
                if (steps >= limit) {
                    return false;
                }
                steps++;
                if (doJump(nodes, flow)) {
                    return true;
                }
            }
            return false;
        }

        private void doAssignments(Nodes nodes, Flow flow, int limit) {
            int step = flow.firsts[block];
            for (int i = 0; i < flow.counts[block] && steps < limit; i++) {
                flow.thaw(step, values);
                values[flow.variables[step]] = nodes.valueOf(flow.nodes[step], values, 0);
                step = flow.nexts[step];
                steps++;
            }
        }

        /** Whether the jump was a RETURN. */
        private boolean doJump(Nodes nodes, Flow flow) {
            int jump = flow.jumps[block];
            int step = flow.jumpStep(block);
            flow.thaw(step, values);
            int value = nodes.valueOf(flow.nodes[step], values, 0);
            if (flow.kinds[jump] == RETURN) {
                returned = value;
                return true;
            }
            block = flow.kinds[jump] == GO || value != 0 ? flow.ones[jump] : flow.others[jump];
            return false;
        }
    }

    /** Finds the states, and makes a residual block of each. */
    private static final class Mixer {
        private final int[] stateBlocks = new int[MOST_RESIDUAL_BLOCKS];
        private final int[] stateValues = new int[MOST_RESIDUAL_BLOCKS * VARIABLES];
        // By block: the variables whose values its states have, as bits.
        private final int[] kept = new int[BLOCKS];
        private final int[] values = new int[VARIABLES];
        private final int[] wanted = new int[VARIABLES];
        private int states;
        private boolean overflown;

        /** Makes the residual flow, by its static variables: false if it would have too many blocks. */
        private boolean work(Nodes nodes, Flow program, int[] lives, int[] inputs, Flow residual) {
            for (int block = 0; block < BLOCKS; block++) {
                kept[block] = residual.statics & lives[block];
            }
            System.arraycopy(inputs, 0, values, 0, VARIABLES);
            states = 0;
            overflown = false;
            comeTo(0);
            for (int state = 0; state < states && state < MOST_RESIDUAL_BLOCKS && !overflown; state++) {
                residual.makeEmpty(state, stateBlocks[state]);
                System.arraycopy(stateValues, state * VARIABLES, values, 0, VARIABLES);
                mixAssignments(nodes, program, residual, state);
                mixJump(nodes, program, residual, state);
            }
            residual.size = states;
            return !overflown;
        }

        private void mixAssignments(Nodes nodes, Flow program, Flow residual, int state) {
            int block = stateBlocks[state];
            int step = program.firsts[block];
            for (int i = 0; i < program.counts[block]; i++) {
                int variable = program.variables[step];
                int node = program.nodes[step];
                if ((residual.statics >> variable & 1) != 0) {
                    values[variable] = nodes.valueOf(node, values, 0);
                } else {
                    residual.freeze(residual.append(state, variable, node), values);
                }
                step = program.nexts[step];
            }
        }

        private void mixJump(Nodes nodes, Flow program, Flow residual, int state) {
            int block = stateBlocks[state];
            int jump = program.jumps[block];
            int kind = program.kinds[jump];
            int node = program.nodes[program.jumpStep(block)];
            boolean isKnown = (nodes.variables[node] & ~residual.statics) == 0;
            residual.freeze(residual.jumpStep(state), values);
            if (kind == RETURN) {
                residual.setJump(state, RETURN, node);
            } else if (kind == IF && !isKnown) {
                residual.setJump(state, IF, node);
                int one = comeTo(program.ones[jump]);
                int other = comeTo(program.others[jump]);
                residual.setTargets(state, one, other);
            } else {
                boolean toOne = kind == GO || nodes.valueOf(node, values, 0) != 0;
                residual.setJump(state, GO, ZERO);
                residual.setTargets(state, comeTo(toOne ? program.ones[jump] : program.others[jump]), NONE);
            }
        }

        /** The state of a block with the present values, a new one if there is none: NONE if there is no room for it. */
        private int comeTo(int block) {
            for (int v = 0; v < VARIABLES; v++) {
                wanted[v] = (kept[block] >> v & 1) != 0 ? values[v] : 0;
            }
            for (int state = 0; state < states; state++) {
                if (isWanted(state, block)) {
                    return state;
                }
            }
            if (states >= MOST_RESIDUAL_BLOCKS) {
                overflown = true;
                return NONE;
            }
            stateBlocks[states] = block;
            System.arraycopy(wanted, 0, stateValues, states * VARIABLES, VARIABLES);
            states++;
            return states - 1;
        }

        private boolean isWanted(int state, int block) {
            if (stateBlocks[state] != block) {
                return false;
            }
            for (int v = 0; v < VARIABLES; v++) {
                if (stateValues[state * VARIABLES + v] != wanted[v]) {
                    return false;
                }
            }
            return true;
        }
    }

    /** Puts blocks in the place of the only GO that goes to them. */
    private static final class Compressor {
        // By block: how many jumps go to it, and the block whose GO does.
        private final int[] arrivals = new int[MOST_RESIDUAL_BLOCKS];
        private final int[] goers = new int[MOST_RESIDUAL_BLOCKS];
        // By block: its new number, or NONE once it stands in the place of a GO.
        private final int[] numbers = new int[MOST_RESIDUAL_BLOCKS];

        private void work(Flow flow) {
            Arrays.fill(numbers, 0);
            // Each round but the last one takes a block away.
            for (int round = 0; round < flow.size; round++) {
                findArrivals(flow);
                int block = lowestToMove(flow);
                if (block == NONE) {
                    break;
                }
                flow.join(goers[block], block);
                numbers[block] = NONE;
            }
            numberAnew(flow);
        }

        private void findArrivals(Flow flow) {
            Arrays.fill(arrivals, 0);
            Arrays.fill(goers, NONE);
            for (int block = 0; block < flow.size; block++) {
                int jump = flow.jumps[block];
                if (numbers[block] == NONE || flow.kinds[jump] == RETURN) {
                    continue;
                }
                arrivals[flow.ones[jump]]++;
                if (flow.kinds[jump] == IF) {
                    arrivals[flow.others[jump]]++;
                } else {
                    goers[flow.ones[jump]] = block;
                }
            }
        }

        private int lowestToMove(Flow flow) {
            for (int block = 1; block < flow.size; block++) {
                boolean isLeft = numbers[block] != NONE;
                if (isLeft && arrivals[block] == 1 && goers[block] != NONE && goers[block] != block) {
                    return block;
                }
            }
            return NONE;
        }

        private void numberAnew(Flow flow) {
            int left = 0;
            for (int block = 0; block < flow.size; block++) {
                if (numbers[block] != NONE) {
                    numbers[block] = left;
                    left++;
                }
            }
            for (int block = 0; block < flow.size; block++) {
                if (numbers[block] != NONE) {
                    int jump = flow.jumps[block];
                    flow.setTargets(block, numberOf(flow.ones[jump]), numberOf(flow.others[jump]));
                    flow.renumber(block, numbers[block]);
                }
            }
            flow.size = left;
        }

        private int numberOf(int target) {
            return target == NONE ? NONE : numbers[target];
        }
    }

    /** The text of the residual program: its length, and as much of it as is asked for. */
    private static final class Text {
        private final char[] signs = new char[SIGNS_KEPT];
        // The static variables' values at the step that is written.
        private final int[] values = new int[VARIABLES];
        private int length;
        private boolean stale;

        private void refresh(Nodes nodes, Flow flow) {
            if (!stale) {
                return;
            }
            length = 0;
            for (int block = 0; block < flow.size; block++) {
                putNumber(block);
                put(':');
                putAssignments(nodes, flow, block);
                putJump(nodes, flow, block);
                put(';');
            }
            stale = false;
        }

        private void putAssignments(Nodes nodes, Flow flow, int block) {
            int step = flow.firsts[block];
            for (int i = 0; i < flow.counts[block]; i++) {
                putLetter(flow.variables[step]);
                put('=');
                putNodeOf(nodes, flow, step);
                put(';');
                step = flow.nexts[step];
            }
        }

        private void putJump(Nodes nodes, Flow flow, int block) {
            int jump = flow.jumps[block];
            switch (flow.kinds[jump]) {
                case GO:
                    put('^');
                    putNumber(flow.ones[jump]);
                    break;
                case IF:
                    put('?');
                    putNodeOf(nodes, flow, flow.jumpStep(block));
                    put(',');
                    putNumber(flow.ones[jump]);
                    put(',');
                    putNumber(flow.others[jump]);
                    break;
                default:
                    put('!');
                    putNodeOf(nodes, flow, flow.jumpStep(block));
                    break;
            }
        }

        private void putNodeOf(Nodes nodes, Flow flow, int step) {
            flow.thaw(step, values);
            putPart(nodes, flow.nodes[step], flow.statics, 0);
        }

        private void putPart(Nodes nodes, int node, int statics, int depth) {
            if ((nodes.variables[node] & ~statics) == 0 || depth > DEEPEST) {
                putNumber(nodes.valueOf(node, values, 0));
            } else if (nodes.kinds[node] == VARIABLE) {
                putLetter(nodes.firsts[node]);
            } else {
                put('(');
                putPart(nodes, nodes.firsts[node], statics, depth + 1);
                put(NODE_SIGNS.charAt(nodes.kinds[node] - PLUS));
                putPart(nodes, nodes.seconds[node], statics, depth + 1);
                put(')');
            }
        }

        private void putLetter(int variable) {
            put((char) ('a' + variable));
        }

        private void putNumber(int number) {
            // A long, as the lowest int has no int above 0 that is its opposite.
            long rest = number;
            if (rest < 0) {
                put('-');
                rest = -rest;
            }
            long unit = 1;
            for (int i = 0; i < 9 && rest / unit >= 10; i++) {
                unit *= 10;
            }
            for (int i = 0; i < 10 && unit > 0; i++) {
                put((char) ('0' + rest / unit % 10));
                unit /= 10;
            }
        }

        private void put(char sign) {
            if (length < SIGNS_KEPT) {
                signs[length] = sign;
            }
            length++;
        }
    }
}
