import java.util.ArrayList;
import java.util.Arrays;
import java.util.HashSet;
import java.util.LinkedHashMap;
import java.util.List;
import java.util.Map;
import java.util.NoSuchElementException;
import java.util.Set;
import java.util.TreeMap;

/**
 * The document a second time, as plainly as the Java library allows and by other means than
 * FlowMixer: trees for nodes, a text for each state, a search for each way.
 */
final class Model {
    /** A node; a number and a variable have no parts. */
    record Tree(int kind, int value, Tree left, Tree right) {
        int size() {
            return left == null ? 1 : 1 + left.size() + right.size();
        }

        boolean uses(int variable) {
            return kind == 1 && value == variable
                    || left != null && (left.uses(variable) || right.uses(variable));
        }

        boolean usesAny(Set<Integer> variables) {
            return variables.stream().anyMatch(this::uses);
        }

        int of(int[] values) {
            return switch (kind) {
                case 0 -> value;
                case 1 -> values[value];
                case 2 -> left.of(values) + right.of(values);
                case 3 -> left.of(values) - right.of(values);
                case 4 -> left.of(values) * right.of(values);
                case 5 -> left.of(values) == right.of(values) ? 1 : 0;
                default -> left.of(values) < right.of(values) ? 1 : 0;
            };
        }

        Tree reduced(Set<Integer> dynamics, int[] values) {
            if (!usesAny(dynamics)) {
                return new Tree(0, of(values), null, null);
            }
            return left == null ? this
                    : new Tree(kind, 0, left.reduced(dynamics, values), right.reduced(dynamics, values));
        }

        String text() {
            if (kind == 0) {
                return Integer.toString(value);
            }
            return kind == 1 ? "abcdefgh".substring(value, value + 1)
                    : "(" + left.text() + "  +-*=<".charAt(kind) + right.text() + ")";
        }
    }

    record Assignment(int variable, Tree tree) {
    }

    static final class Block {
        int origin;
        List<Assignment> assignments = new ArrayList<>();
        int kind = 2;
        Tree tree = new Tree(0, 0, null, null);
        List<Integer> targets = new ArrayList<>();
    }

    private final List<Tree> trees = new ArrayList<>();
    private final Map<Integer, Block> program = new TreeMap<>();
    private final int[] inputs = new int[8];
    private Map<Integer, Block> residual = new TreeMap<>();
    private final int[] results = new int[3];

    Model() {
        for (int block = 0; block < 16; block++) {
            program.put(block, new Block());
        }
    }

    private static void need(boolean there) {
        if (!there) {
            throw new NoSuchElementException();
        }
    }

    private static void within(int x, int low, int high) {
        if (x < low || x > high) {
            throw new IllegalArgumentException();
        }
    }

    private static void allow(boolean fine) {
        if (!fine) {
            throw new IllegalStateException();
        }
    }

    private boolean isTree(int node) {
        return node >= 0 && node < trees.size();
    }

    private static boolean isVariable(int v) {
        return v >= 0 && v <= 7;
    }

    int node(int kind, int a, int b) {
        need(kind >= 0 && kind <= 6);
        need(kind != 1 || isVariable(a));
        need(kind < 2 || isTree(a) && isTree(b));
        Tree tree = kind < 2 ? new Tree(kind, a, null, null) : new Tree(kind, 0, trees.get(a), trees.get(b));
        allow(tree.size() <= 60 && trees.size() < 150);
        trees.add(tree);
        return trees.size() - 1;
    }

    int assign(int block, int variable, int node) {
        need(program.containsKey(block) && isVariable(variable) && isTree(node));
        List<Assignment> assignments = program.get(block).assignments;
        allow(assignments.size() < 10);
        assignments.add(new Assignment(variable, trees.get(node)));
        return assignments.size();
    }

    void jump(int block, int kind, int node, int one, int other) {
        need(program.containsKey(block) && kind >= 0 && kind <= 2);
        need(kind == 0 || isTree(node));
        need(kind == 2 || program.containsKey(one));
        need(kind != 1 || program.containsKey(other));
        Block b = program.get(block);
        b.kind = kind;
        b.tree = kind == 0 ? null : trees.get(node);
        b.targets = kind == 0 ? List.of(one) : kind == 1 ? List.of(one, other) : List.of();
    }

    int clear(int block) {
        need(program.containsKey(block));
        return program.put(block, new Block()).assignments.size();
    }

    int input(int variable, int v) {
        need(isVariable(variable));
        int before = inputs[variable];
        inputs[variable] = v;
        return before;
    }

    boolean run(int n) {
        within(n, 0, 5000);
        return walk(program, n);
    }

    boolean follow(int n) {
        within(n, 0, 5000);
        allow(!residual.isEmpty());
        return walk(residual, n);
    }

    private boolean walk(Map<Integer, Block> blocks, int n) {
        int[] values = inputs.clone();
        int at = 0;
        int number = 0;
        Arrays.fill(results, 0);
        for (int step = 1; step <= n; step++) {
            Block block = blocks.get(number);
            results[1] = step;
            if (at < block.assignments.size()) {
                Assignment done = block.assignments.get(at++);
                values[done.variable] = done.tree.of(values);
            } else if (block.kind == 2) {
                results[0] = block.tree.of(values);
                return true;
            } else {
                number = block.targets.get(block.kind == 1 && block.tree.of(values) == 0 ? 1 : 0);
                results[2] = number;
                at = 0;
            }
        }
        return false;
    }

    int result(int what) {
        within(what, 0, 2);
        return results[what];
    }

    private Set<Integer> dynamics(int known) {
        Set<Integer> dynamics = new HashSet<>();
        for (int v = 0; v < 8; v++) {
            if ((known & 1 << v) == 0) {
                dynamics.add(v);
            }
        }
        for (int round = 0; round < 8; round++) {
            for (Block block : program.values()) {
                for (Assignment assignment : block.assignments) {
                    if (assignment.tree.usesAny(dynamics)) {
                        dynamics.add(assignment.variable);
                    }
                }
            }
        }
        return dynamics;
    }

    int divide(int known) {
        within(known, 0, 255);
        int bits = 255;
        for (int v : dynamics(known)) {
            bits -= 1 << v;
        }
        return bits;
    }

    /** Goes every way from a block's beginning on, no block twice. */
    private boolean isLive(int variable, int number, Set<Integer> been) {
        if (!been.add(number)) {
            return false;
        }
        Block block = program.get(number);
        for (Assignment assignment : block.assignments) {
            if (assignment.tree.uses(variable)) {
                return true;
            }
            if (assignment.variable == variable) {
                return false;
            }
        }
        if (block.tree != null && block.tree.uses(variable)) {
            return true;
        }
        return block.targets.stream().anyMatch(target -> isLive(variable, target, been));
    }

    int live(int block) {
        need(program.containsKey(block));
        int bits = 0;
        for (int v = 0; v < 8; v++) {
            bits |= isLive(v, block, new HashSet<>()) ? 1 << v : 0;
        }
        return bits;
    }

    private String stateOf(int block, int[] values, Set<Integer> dynamics) {
        StringBuilder text = new StringBuilder().append(block);
        for (int v = 0; v < 8; v++) {
            if (!dynamics.contains(v) && isLive(v, block, new HashSet<>())) {
                text.append(' ').append(v).append('=').append(values[v]);
            }
        }
        return text.toString();
    }

    int mix(int known) {
        within(known, 0, 255);
        Set<Integer> dynamics = dynamics(known);
        Map<String, Integer> numbers = new LinkedHashMap<>();
        List<int[]> values = new ArrayList<>();
        List<Integer> blocks = new ArrayList<>();
        Map<Integer, Block> made = new TreeMap<>();
        comeTo(0, inputs, dynamics, numbers, values, blocks);
        for (int state = 0; state < blocks.size(); state++) {
            if (blocks.size() > 100) {
                return -1;
            }
            Block from = program.get(blocks.get(state));
            Block to = new Block();
            int[] now = values.get(state).clone();
            made.put(state, to);
            to.origin = blocks.get(state);
            for (Assignment assignment : from.assignments) {
                if (dynamics.contains(assignment.variable)) {
                    to.assignments.add(new Assignment(assignment.variable, assignment.tree.reduced(dynamics, now)));
                } else {
                    now[assignment.variable] = assignment.tree.of(now);
                }
            }
            List<Integer> targets = from.targets;
            to.kind = from.kind;
            to.tree = from.tree == null ? null : from.tree.reduced(dynamics, now);
            if (from.kind == 1 && !from.tree.usesAny(dynamics)) {
                to.kind = 0;
                to.tree = null;
                targets = List.of(targets.get(from.tree.of(now) != 0 ? 0 : 1));
            }
            for (int target : targets) {
                to.targets.add(comeTo(target, now, dynamics, numbers, values, blocks));
            }
        }
        residual = made;
        return made.size();
    }

    private int comeTo(int block, int[] now, Set<Integer> dynamics, Map<String, Integer> numbers,
            List<int[]> values, List<Integer> blocks) {
        String state = stateOf(block, now, dynamics);
        if (!numbers.containsKey(state)) {
            numbers.put(state, numbers.size());
            values.add(now.clone());
            blocks.add(block);
        }
        return numbers.get(state);
    }

    int compress() {
        allow(!residual.isEmpty());
        while (moveOne()) {
            // again and again
        }
        List<Integer> old = new ArrayList<>(residual.keySet());
        Map<Integer, Block> anew = new TreeMap<>();
        for (int number = 0; number < old.size(); number++) {
            Block block = residual.get(old.get(number));
            block.targets = new ArrayList<>(block.targets.stream().map(old::indexOf).toList());
            anew.put(number, block);
        }
        residual = anew;
        return residual.size();
    }

    private boolean moveOne() {
        for (int k : residual.keySet()) {
            List<Integer> from = new ArrayList<>();
            residual.forEach((number, block) -> block.targets.forEach(target -> {
                if (target == k) {
                    from.add(number);
                }
            }));
            if (k == 0 || from.size() != 1 || from.get(0) == k || residual.get(from.get(0)).kind != 0) {
                continue;
            }
            Block block = residual.get(from.get(0));
            Block moved = residual.remove(k);
            block.assignments.addAll(moved.assignments);
            block.kind = moved.kind;
            block.tree = moved.tree;
            block.targets = moved.targets;
            return true;
        }
        return false;
    }

    int about(int block, int what) {
        need(residual.containsKey(block));
        within(what, 0, 4);
        Block b = residual.get(block);
        return switch (what) {
            case 0 -> b.origin;
            case 1 -> b.assignments.size();
            case 2 -> b.kind;
            default -> b.targets.size() > what - 3 ? b.targets.get(what - 3) : -1;
        };
    }

    String wholeText() {
        StringBuilder text = new StringBuilder();
        residual.forEach((number, block) -> {
            text.append(number).append(':');
            for (Assignment assignment : block.assignments) {
                text.append((char) ('a' + assignment.variable)).append('=');
                text.append(assignment.tree.text()).append(';');
            }
            text.append("^?!".charAt(block.kind));
            List<String> parts = new ArrayList<>();
            if (block.tree != null) {
                parts.add(block.tree.text());
            }
            block.targets.forEach(target -> parts.add(target.toString()));
            text.append(String.join(",", parts)).append(';');
        });
        return text.toString();
    }

    int sign(int i) {
        String text = wholeText();
        need(i >= 0 && i < text.length() && i < 3000);
        return text.charAt(i);
    }

    int count(int what) {
        within(what, 0, 3);
        return switch (what) {
            case 0 -> trees.size();
            case 1 -> residual.size();
            case 2 -> wholeText().length();
            default -> trees.stream().mapToInt(Tree::size).max().orElse(0);
        };
    }
}
