import java.util.ArrayList;
import java.util.List;
import java.util.Random;

/** Runs of random calls, the same at every start, on the program and on the model: their answers must agree. */
public final class RandomRunsTest {
    private static final int RUNS = 12000;
    /** Nothing is promised of an object after so many calls; the last ones of each run ask for all there is. */
    private static final int MOST_CALLS = 512;
    private static final int LAST_CALLS = 60;
    // What is here more than once is chosen more often: most programs shall live long and fill their heaps.
    private static final String[] POOL = ("PUSH PUSH PUSH ADD SUB MUL DIV LESS LOAD LOAD LOAD LOAD STORE STORE STORE DUP "
        + "POP NEW NEW NEW NEW NEW NEW GET SET SET SET SAME NIL SHARED ZERO OUT IN IN SEND SEND SEND RECEIVE RECEIVE START "
        + "STOP").split(" ");

    private final Random random;
    private final TenantHost host;
    private final Model model;
    private final String name;
    private int calls = 0;

    private RandomRunsTest(int seed) {
        random = new Random(seed);
        int length = random.nextInt(12) - 1;
        host = new TenantHost(length);
        model = new Model(length);
        name = "run " + seed + ": ";
    }

    public static void main(String[] args) {
        for (int seed = 0; seed < RUNS; seed++) {
            new RandomRunsTest(seed).run();
        }
        Check.done();
    }

    private void run() {
        for (int i = random.nextInt(6); i > 0; i--) {
            share();
        }
        for (int p = 0; p < 4; p++) {
            writeProgram(p);
        }
        for (int t = 0; t < 4; t++) {
            setUp(t);
        }
        while (calls < MOST_CALLS - LAST_CALLS - 16) {
            anyCall();
            for (int i = 0; i < 5; i++) {
                ask(nearly(4), random.nextInt(11));
            }
        }
        for (int t = 0; t < 4; t++) {
            for (int question = 0; question < 11; question++) {
                ask(t, question);
            }
        }
        Check.yes(name + "at most 512 calls", calls <= MOST_CALLS);
    }

    private void due(String call, long got, long want) {
        calls++;
        Check.due(name + call, got, want);
    }

    private void due(String call, boolean got, boolean want) {
        due(call, got ? 1 : 0, want ? 1 : 0);
    }

    /** Mostly one of the count; now and then a number beside them. */
    private int nearly(int count) {
        return random.nextInt(30) == 0 ? random.nextInt(count + 4) - 2 : random.nextInt(count);
    }

    private int anyNumber() {
        int[] edges = {Integer.MIN_VALUE, Integer.MAX_VALUE, -1, 0, 1, 2, 9, 33};
        return random.nextInt(3) == 0 ? edges[random.nextInt(edges.length)] : random.nextInt(5);
    }

    private void share() {
        int num = anyNumber();
        int left = random.nextInt(6) - 2;
        int right = random.nextInt(6) - 2;
        due("share(" + num + ", " + left + ", " + right + ")", host.share(num, left, right),
            model.share(num, left, right));
    }

    private void setUp(int t) {
        for (int b = 0; b < 4; b++) {
            permit(t, b, random.nextInt(8) == 0 ? random.nextInt(8) : 7);
        }
        if (random.nextInt(8) != 0) {
            reserve(t);
        }
        if (random.nextInt(4) != 0) {
            launch(t, random.nextInt(4));
        }
    }

    private void reserve(int t) {
        int cells = random.nextInt(4) == 0 ? random.nextInt(28) - 1 : random.nextInt(9) + 1;
        int steps = random.nextInt(10) == 0 ? random.nextInt(4000) - 400 : random.nextInt(600);
        due("reserve(" + t + ", " + cells + ", " + steps + ")", host.reserve(t, cells, steps),
            model.reserve(t, cells, steps));
    }

    private void permit(int a, int b, int what) {
        due("permit(" + a + ", " + b + ", " + what + ")", host.permit(a, b, what), model.permit(a, b, what));
    }

    private void launch(int t, int p) {
        due("launch(" + t + ", " + p + ")", host.launch(t, p), model.launch(t, p));
    }

    private void anyCall() {
        int t = nearly(4);
        switch (random.nextInt(15)) {
            case 0: share(); break;
            case 1: permit(t, nearly(4), nearly(8)); break;
            case 2: launch(t, nearly(4)); break;
            case 3: code(t, nearly(25), nearly(4)); break;
            case 4: due("clear(" + t + ")", host.clear(t), model.clear(t)); break;
            case 5: seal(t); break;
            case 6:
            case 7:
            case 8: feed(t, anyNumber()); break;
            case 9: runSlices(random.nextInt(5) == 0 ? random.nextInt(210) - 5 : random.nextInt(30)); break;
            case 10: reserve(t); break;
            default: runSlices(random.nextInt(6)); break;
        }
    }

    private void feed(int t, int v) {
        due("feed(" + t + ", " + v + ")", host.feed(t, v), model.feed(t, v));
    }

    private void runSlices(int n) {
        due("run(" + n + ")", host.run(n), model.run(n));
    }

    private void seal(int p) {
        due("seal(" + p + ")", host.seal(p), model.seal(p));
        for (int k = 0; k < 8; k++) {
            int i = random.nextInt(26) - 1;
            due("shape(" + p + ", " + i + ")", host.shape(p, i), model.shape(p, i));
        }
    }

    private void code(int p, int op, int arg) {
        due("code(" + p + ", " + op + ", " + arg + ")", host.code(p, op, arg), model.code(p, op, arg));
    }

    private void code(int p, String op, int arg) {
        code(p, Code.OPS.indexOf(op), arg);
    }

    private void ask(int t, int question) {
        switch (question) {
            case 0: due("state(" + t + ")", host.state(t), model.state(t)); break;
            case 1: due("steps(" + t + ")", host.steps(t), model.steps(t)); break;
            case 2: due("used(" + t + ")", host.used(t), model.used(t)); break;
            case 3: due("live(" + t + ")", host.live(t), model.live(t)); break;
            case 4: due("collections(" + t + ")", host.collections(t), model.collections(t)); break;
            case 5: due("ended(" + t + ")", host.ended(t), model.ended(t)); break;
            case 6: due("messages(" + t + ")", host.messages(t), model.messages(t)); break;
            case 7: output(t, -1); break;
            case 8: output(t, random.nextInt(20) - 2); break;
            case 9: local(t, random.nextInt(6) - 2); break;
            default: look(t, random.nextInt(), random.nextInt(8) == 0 ? random.nextInt(36) - 2 : random.nextInt(5)); break;
        }
    }

    private void output(int t, int k) {
        due("output(" + t + ", " + k + ")", host.output(t, k), model.output(t, k));
    }

    private void local(int t, int k) {
        due("local(" + t + ", " + k + ")", host.local(t, k), model.local(t, k));
    }

    private void look(int t, int path, int n) {
        due("look(" + t + ", " + path + ", " + n + ")", host.look(t, path, n), model.look(t, path, n));
    }

    /**
     * A program that is mostly sound: each op is chosen to suit the stack before it, and the end leads back to
     * a position that is reached with the same stack.
     */
    private void writeProgram(int p) {
        int count = 8 + random.nextInt(14);
        List<String> stacks = new ArrayList<>();
        String stack = "";
        if (random.nextInt(5) != 0) {
            fillLocals(p, stacks);
        }
        while (stacks.size() < count) {
            stacks.add(stack);
            stack = random.nextInt(250) == 0 ? anyInstruction(p, stack) : fittingInstruction(p, stack, stacks);
        }
        while (stacks.size() < 23 && !stacks.contains(stack) && !stack.isEmpty()) {
            code(p, "POP", 0);
            stacks.add(stack);
            stack = stack.substring(0, stack.length() - 1);
        }
        int back = stacks.indexOf(stack);
        if (back < 0 || random.nextInt(4) == 0) {
            code(p, "HALT", 0);
        } else {
            code(p, "JUMP", back);
        }
        seal(p);
    }

    /** Few runs would go far if every reference were null at first. */
    private void fillLocals(int p, List<String> stacks) {
        for (int local = 2; local < 4; local++) {
            code(p, "PUSH", anyNumber());
            code(p, "NEW", 0);
            code(p, "STORE", local);
            stacks.addAll(List.of("", "I", "R"));
        }
    }

    private String anyInstruction(int p, String stack) {
        code(p, random.nextInt(25), random.nextInt(4));
        return stack;
    }

    private String fittingInstruction(int p, String stack, List<String> stacks) {
        for (int tries = 0; tries < 100; tries++) {
            String op = POOL[random.nextInt(POOL.length)];
            int arg = anyArg(op, stacks.size());
            String after = Model.after(op, arg, stack);
            if (after != null && (!op.equals("ZERO") || stacks.get(arg).equals(after))) {
                code(p, op, arg);
                return after;
            }
        }
        return anyInstruction(p, stack);
    }

    private int anyArg(String op, int positions) {
        switch (op) {
            case "PUSH": return anyNumber();
            case "LOAD":
            case "STORE":
            case "SEND":
            case "START":
            case "STOP": return random.nextInt(4);
            case "GET": return Math.max(0, random.nextInt(8) - 5);
            case "SET": return random.nextInt(3);
            case "SHARED": return random.nextInt(8);
            case "ZERO": return random.nextInt(positions);
            default: return 0;
        }
    }
}
