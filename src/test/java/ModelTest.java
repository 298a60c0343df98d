import java.util.Arrays;
import java.util.Random;

/**
 * Long runs of calls by chance, always the same ones: FlowMixer answers what the model answers.
 *
 * Whole texts are read sign by sign, which makes more calls than the document's 512 of an object;
 * the class does not count its calls, so this tells more than a sample of signs would. The other
 * tests of boundary cases keep to the 512 (Watched).
 */
public final class ModelTest {
    private static final int RUNS = 3000;
    private static final int[] EDGES = {Integer.MIN_VALUE, -1, 0, 1, 7, 8, 15, 16, 150, 255, 256, 5000, 5001, Integer.MAX_VALUE};
    private static final String[] NAMES = {"node", "assign", "jump", "clear", "input", "run", "follow", "result",
        "divide", "live", "mix", "compress", "about", "sign", "count"};
    private static final int[] PARAMETERS = {3, 3, 5, 1, 2, 1, 1, 1, 1, 1, 1, 0, 2, 1, 1};

    private final Random random;
    private final FlowMixer mixer = new FlowMixer();
    private final Model model = new Model();
    // How wide the program is: few blocks and variables make more ways come together.
    private final int blocks;
    private final int variables;

    private static int mixed = 0;
    private static int tooMany = 0;
    private static int full = 0;
    private static int shortened = 0;
    private static int returned = 0;

    private ModelTest(int seed) {
        random = new Random(seed);
        blocks = 1 + random.nextInt(random.nextBoolean() ? 5 : 16);
        variables = 1 + random.nextInt(8);
    }

    public static void main(String[] args) {
        for (int seed = 0; seed < RUNS; seed++) {
            new ModelTest(seed).calls(seed);
        }
        System.out.println("mixed " + mixed + ", too many " + tooMany + ", full " + full
                + ", shortened " + shortened + ", returned " + returned);
        // Without these, the runs would say little.
        Checks.due("many were mixed", mixed > 2000, true);
        Checks.due("some had too many blocks", tooMany > 200, true);
        Checks.due("some were near the limit", full > 50, true);
        Checks.due("many were compressed", shortened > 500, true);
        Checks.due("many followed to the end", returned > 1000, true);
        Checks.end();
    }

    private void calls(int seed) {
        int calls = 0;
        for (int i = 0; i < 10 + random.nextInt(30); i++) {
            calls += call(seed, 0);
        }
        for (int block = 0; block < blocks; block++) {
            calls += call(seed, 2, block);
            for (int i = random.nextInt(4); i > 0; i--) {
                calls += call(seed, 1, block);
            }
        }
        while (calls < 490) {
            int which = random.nextInt(100);
            if (which < 8) {
                calls += call(seed, 0);
            } else if (which < 16) {
                calls += call(seed, 1);
            } else if (which < 22) {
                calls += call(seed, 2);
            } else if (which < 23) {
                calls += call(seed, 3);
            } else if (which < 30) {
                calls += call(seed, 4);
            } else if (which < 40) {
                calls += call(seed, 10);
                calls += both(seed);
            } else if (which < 44) {
                calls += call(seed, 11);
                calls += both(seed);
            } else {
                calls += call(seed, 5 + random.nextInt(10));
            }
        }
    }

    /** The program and the residual one, one behind the other. */
    private int both(int seed) {
        int n = random.nextInt(4) == 0 ? random.nextInt(60) : 5000;
        int calls = 0;
        for (int method = 5; method <= 6; method++) {
            compare(seed, method, new int[] {n, 0, 0, 0, 0});
            for (int what = 0; what < 3; what++) {
                compare(seed, 7, new int[] {what, 0, 0, 0, 0});
            }
            calls += 4;
        }
        for (int what = 0; what < 4; what++) {
            compare(seed, 14, new int[] {what, 0, 0, 0, 0});
        }
        return calls + 4;
    }

    private int call(int seed, int method, int... first) {
        int[] arguments = new int[5];
        for (int i = 0; i < PARAMETERS[method]; i++) {
            arguments[i] = random.nextInt(60) == 0 ? EDGES[random.nextInt(EDGES.length)] : argument(method, i);
        }
        if (method == 0 && arguments[0] == 1 && random.nextInt(60) != 0) {
            arguments[1] = random.nextInt(variables);
        }
        if (method == 0 && arguments[0] == 0) {
            arguments[1] = number();
        }
        System.arraycopy(first, 0, arguments, 0, first.length);
        compare(seed, method, arguments);
        return 1;
    }

    private int number() {
        return random.nextInt(8) == 0 ? random.nextInt() : random.nextInt(12) - 4;
    }

    private int argument(int method, int i) {
        int node = random.nextInt(Math.max(1, mixer.count(0)));
        switch (NAMES[method]) {
            case "node":
                return i == 0 ? random.nextInt(mixer.count(0) < 6 ? 2 : 7) : node;
            case "assign":
                return i == 0 ? random.nextInt(blocks) : i == 1 ? random.nextInt(variables) : node;
            case "jump":
                return i == 1 ? Math.min(2, random.nextInt(5) / 2) : i == 2 ? node : random.nextInt(blocks);
            case "clear":
            case "live":
                return random.nextInt(blocks);
            case "input":
                return i == 0 ? random.nextInt(variables) : number();
            case "run":
            case "follow":
                return random.nextInt(80);
            case "divide":
            case "mix":
                return random.nextInt(256) | (random.nextBoolean() ? random.nextInt(256) : 0);
            case "about":
                return i == 0 ? random.nextInt(Math.max(1, mixer.count(1) + 1)) : random.nextInt(5);
            case "sign":
                return random.nextInt(mixer.count(2) + 2);
            default:
                return random.nextInt(4);
        }
    }

    private void compare(int seed, int method, int[] arguments) {
        int before = mixer.count(1);
        String got = answer(method, arguments, false);
        String want = answer(method, arguments, true);
        String call = "run " + seed + ": " + NAMES[method] + Arrays.toString(Arrays.copyOf(arguments, PARAMETERS[method]));
        Checks.due(call, got, want);
        if (method == 10 || method == 11) {
            compareTexts(call);
            mixed += mixer.count(1) > 2 && method == 10 ? 1 : 0;
            tooMany += got.equals("-1") ? 1 : 0;
            full += method == 10 && mixer.count(1) > 40 ? 1 : 0;
            shortened += method == 11 && mixer.count(1) > 1 && mixer.count(1) < before ? 1 : 0;
        }
        returned += method == 6 && got.equals("1") ? 1 : 0;
    }

    private void compareTexts(String call) {
        int length = Math.min(3000, mixer.count(2));
        String want = model.count(1) == 0 ? "" : model.wholeText();
        Checks.due("length behind " + call, mixer.count(2), want.length());
        Checks.due("text behind " + call, Checks.text(mixer), want.substring(0, length));
    }

    private String answer(int method, int[] a, boolean byModel) {
        try {
            return Integer.toString(byModel ? ofModel(method, a) : ofMixer(method, a));
        } catch (RuntimeException e) {
            return e.getClass().getName();
        }
    }

    private int ofMixer(int method, int[] a) {
        switch (NAMES[method]) {
            case "node":
                return mixer.node(a[0], a[1], a[2]);
            case "assign":
                return mixer.assign(a[0], a[1], a[2]);
            case "jump":
                mixer.jump(a[0], a[1], a[2], a[3], a[4]);
                return 0;
            case "clear":
                return mixer.clear(a[0]);
            case "input":
                return mixer.input(a[0], a[1]);
            case "run":
                return mixer.run(a[0]) ? 1 : 0;
            case "follow":
                return mixer.follow(a[0]) ? 1 : 0;
            case "result":
                return mixer.result(a[0]);
            case "divide":
                return mixer.divide(a[0]);
            case "live":
                return mixer.live(a[0]);
            case "mix":
                return mixer.mix(a[0]);
            case "compress":
                return mixer.compress();
            case "about":
                return mixer.about(a[0], a[1]);
            case "sign":
                return mixer.sign(a[0]);
            default:
                return mixer.count(a[0]);
        }
    }

    private int ofModel(int method, int[] a) {
        switch (NAMES[method]) {
            case "node":
                return model.node(a[0], a[1], a[2]);
            case "assign":
                return model.assign(a[0], a[1], a[2]);
            case "jump":
                model.jump(a[0], a[1], a[2], a[3], a[4]);
                return 0;
            case "clear":
                return model.clear(a[0]);
            case "input":
                return model.input(a[0], a[1]);
            case "run":
                return model.run(a[0]) ? 1 : 0;
            case "follow":
                return model.follow(a[0]) ? 1 : 0;
            case "result":
                return model.result(a[0]);
            case "divide":
                return model.divide(a[0]);
            case "live":
                return model.live(a[0]);
            case "mix":
                return model.mix(a[0]);
            case "compress":
                return model.compress();
            case "about":
                return model.about(a[0], a[1]);
            case "sign":
                return model.sign(a[0]);
            default:
                return model.count(a[0]);
        }
    }
}
