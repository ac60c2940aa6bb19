/** What each instruction does in one tenant, and how it ends it (promises 9, 12, 13, 19, 20 rest on it). */
public final class InstructionTest {
    private static final int MIN = Integer.MIN_VALUE;
    private static final int MAX = Integer.MAX_VALUE;

    public static void main(String[] args) {
        numbersAreReckoned();
        valuesGoByLocalsAndStack();
        cellsHaveParts();
        sharedCellsNeverChange();
        referencesAreCompared();
        jumpsGoWhereTheyShould();
        faultsEndTheTenant();
        endTakesAllButOutputsAndCounts();
        Check.done();
    }

    /** Runs the program and looks at its outputs; it must end as the state says. */
    private static TenantHost ends(int state, String text, int... outputs) {
        TenantHost host = Code.ran(text);
        Check.due("state after " + text, host.state(0), state);
        Check.due("outputs of " + text, host.output(0, -1), outputs.length);
        for (int k = 0; k < outputs.length; k++) {
            Check.due("output " + k + " of " + text, host.output(0, k), outputs[k]);
        }
        return host;
    }

    private static void reckons(int x, int y, String op, int result) {
        ends(3, "PUSH " + x + ", PUSH " + y + ", " + op + ", OUT, HALT", result);
    }

    private static void numbersAreReckoned() {
        reckons(7, 3, "ADD", 10);
        reckons(MAX, 1, "ADD", MIN);
        reckons(7, 3, "SUB", 4);
        reckons(MIN, 1, "SUB", MAX);
        reckons(7, -3, "MUL", -21);
        reckons(MAX, MAX, "MUL", 1);
        reckons(65536, 65536, "MUL", 0);
        reckons(7, 2, "DIV", 3);
        reckons(-7, 2, "DIV", -3);
        reckons(7, -2, "DIV", -3);
        reckons(0, 5, "DIV", 0);
        reckons(MIN, -1, "DIV", MIN);
        reckons(3, 7, "LESS", 1);
        reckons(7, 3, "LESS", 0);
        reckons(7, 7, "LESS", 0);
        reckons(MIN, MAX, "LESS", 1);
        reckons(MAX, MIN, "LESS", 0);
        ends(3, "PUSH " + MIN + ", OUT, PUSH " + MAX + ", OUT, HALT", MIN, MAX);
    }

    private static void valuesGoByLocalsAndStack() {
        ends(3, "PUSH 5, STORE 0, PUSH 6, STORE 1, LOAD 1, OUT, LOAD 0, OUT, LOAD 0, OUT, HALT", 6, 5, 5);
        ends(3, "LOAD 0, OUT, LOAD 1, OUT, LOAD 2, NIL, SAME, OUT, LOAD 3, NIL, SAME, OUT, HALT", 0, 0, 1, 1);
        ends(3, "PUSH 1, NEW, STORE 2, PUSH 2, NEW, STORE 3, LOAD 2, GET 0, OUT, LOAD 3, GET 0, OUT, HALT", 1, 2);
        ends(3, "PUSH 4, DUP, OUT, OUT, PUSH 5, NEW, DUP, SAME, OUT, HALT", 4, 4, 1);
        ends(3, "PUSH 1, PUSH 2, POP, OUT, PUSH 3, NIL, POP, OUT, HALT", 1, 3);
        ends(3, "PUSH 1, PUSH 2, PUSH 3, PUSH 4, PUSH 5, PUSH 6, OUT, OUT, OUT, OUT, OUT, OUT, HALT",
            6, 5, 4, 3, 2, 1);
    }

    private static void cellsHaveParts() {
        ends(3, "PUSH 9, NEW, STORE 2, LOAD 2, GET 0, OUT, LOAD 2, GET 1, NIL, SAME, OUT, "
            + "LOAD 2, GET 2, NIL, SAME, OUT, HALT", 9, 1, 1);
        ends(3, "PUSH 9, NEW, STORE 2, LOAD 2, PUSH 8, SET 0, LOAD 2, GET 0, OUT, HALT", 8);
        ends(3, "PUSH 9, NEW, STORE 2, LOAD 2, PUSH 7, NEW, SET 1, LOAD 2, GET 1, GET 0, OUT, "
            + "LOAD 2, GET 2, NIL, SAME, OUT, HALT", 7, 1);
        ends(3, "PUSH 9, NEW, STORE 2, LOAD 2, PUSH 7, NEW, SET 2, LOAD 2, GET 2, GET 0, OUT, "
            + "LOAD 2, GET 1, NIL, SAME, OUT, HALT", 7, 1);
        ends(3, "PUSH 9, NEW, STORE 2, LOAD 2, LOAD 2, SET 1, LOAD 2, GET 1, GET 1, LOAD 2, SAME, OUT, "
            + "LOAD 2, NIL, SET 1, LOAD 2, GET 1, NIL, SAME, OUT, HALT", 1, 1);
    }

    private static void sharedCellsNeverChange() {
        for (int part = 0; part < 3; part++) {
            TenantHost host = new TenantHost(8);
            host.share(5, -1, -1);
            host.share(6, 0, 0);
            Code.launched(host, 0, 1, 50, "SHARED 1, " + (part == 0 ? "PUSH 1" : "NIL") + ", SET " + part + ", HALT");
            Code.launched(host, 1, 1, 50, "SHARED 1, STORE 2, SHARED 1, GET 1, SHARED 0, SAME, OUT, RECEIVE, HALT");
            host.run(8);
            Check.due("barrier", host.state(0), 8);
            Check.due("steps", host.steps(0), 3);
            Check.due("num", host.look(1, 0, 0), 6);
            Check.due("left", host.look(1, 0, 1), 5);
            Check.due("right", host.look(1, 1, 1), 5);
            Check.due("same cell", host.output(1, 0), 1);
        }
        for (int part = 1; part <= 2; part++) {
            TenantHost host = new TenantHost(8);
            host.share(5, -1, -1);
            Code.launched(host, 0, 1, 50, "SHARED 0, GET " + part + ", NIL, SAME, OUT, SHARED 0, GET " + part
                + ", GET 0, OUT, HALT");
            host.run(8);
            Check.due("number -1 is null", host.output(0, 0), 1);
            Check.due("and has no num", host.state(0), 7);
        }
        TenantHost host = new TenantHost(8);
        Code.launched(host, 0, 1, 50, "SHARED 0, NIL, SAME, OUT, SHARED 0, GET 0, OUT, HALT");
        host.run(0);
        host.share(44, -1, -1);
        host.run(1);
        Check.due("shared after the launch", host.output(0, 0), 0);
        Check.due("its num", host.output(0, 1), 44);
    }

    private static void referencesAreCompared() {
        ends(3, "NIL, NIL, SAME, OUT, PUSH 1, NEW, NIL, SAME, OUT, NIL, PUSH 1, NEW, SAME, OUT, HALT", 1, 0, 0);
        ends(3, "PUSH 1, NEW, PUSH 1, NEW, SAME, OUT, HALT", 0);
    }

    private static void jumpsGoWhereTheyShould() {
        ends(3, "JUMP 3, OUT, HALT, PUSH 4, JUMP 1", 4);
        ends(3, "PUSH 0, ZERO 4, PUSH 1, OUT, PUSH 2, OUT, HALT", 2);
        ends(3, "PUSH 5, ZERO 4, PUSH 1, OUT, PUSH 2, OUT, HALT", 1, 2);
        ends(3, "PUSH -1, ZERO 4, PUSH 1, OUT, PUSH 2, OUT, HALT", 1, 2);
        ends(3, "PUSH 2, NEW, STORE 2, LOAD 2, GET 0, ZERO 13, LOAD 2, LOAD 2, GET 0, PUSH 1, SUB, SET 0, JUMP 3, "
            + "LOAD 2, GET 0, OUT, HALT", 0);
    }

    private static void faultsEndTheTenant() {
        Check.due("steps to HALT", ends(3, "PUSH 1, OUT, HALT", 1).steps(0), 3);
        Check.due("steps to DIVIDE", ends(6, "PUSH 1, PUSH 0, DIV, OUT, HALT").steps(0), 3);
        Check.due("steps to DIVIDE of 0", ends(6, "PUSH 0, PUSH 0, DIV, OUT, HALT").steps(0), 3);
        Check.due("steps to NULL by GET 0", ends(7, "NIL, GET 0, OUT, HALT").steps(0), 2);
        Check.due("steps to NULL by GET 1", ends(7, "NIL, GET 1, HALT").steps(0), 2);
        Check.due("steps to NULL by GET 2", ends(7, "NIL, GET 2, HALT").steps(0), 2);
        Check.due("steps to NULL by SET 0", ends(7, "NIL, PUSH 1, SET 0, HALT").steps(0), 3);
        Check.due("steps to NULL by SET 1", ends(7, "NIL, NIL, SET 1, HALT").steps(0), 3);
        Check.due("steps to NULL by SET 2", ends(7, "NIL, NIL, SET 2, HALT").steps(0), 3);
        TenantHost full = ends(9, "PUSH 1, NEW, DUP, LOAD 2, SET 1, STORE 2, JUMP 0");
        Check.due("steps to MEMORY", full.steps(0), 4 * 7 + 2);
        Check.due("the collection counts", full.collections(0), 1);
        TenantHost out = ends(11, "PUSH 3, OUT, JUMP 0", 3, 3, 3, 3, 3, 3, 3, 3, 3, 3, 3, 3, 3, 3, 3, 3);
        Check.due("steps to OUTPUT", out.steps(0), 16 * 3 + 2);
        Check.due("steps to SPENT", ends(5, "JUMP 0").steps(0), 60);
    }

    private static void endTakesAllButOutputsAndCounts() {
        String[] endings = {
            "HALT", "PUSH 1, PUSH 0, DIV, HALT", "NIL, GET 0, HALT", "SHARED 0, NIL, SET 1, HALT", "NIL, SEND 3, HALT",
            "JUMP 12", "STOP 0, HALT"};
        int[] states = {3, 6, 7, 8, 10, 5, 4};
        for (int i = 0; i < endings.length; i++) {
            TenantHost host = new TenantHost(8);
            host.share(1, -1, -1);
            host.permit(0, 0, 5);
            Code.launched(host, 0, 4, 60, "PUSH 4, STORE 1, PUSH 5, NEW, STORE 2, PUSH 6, OUT, LOAD 2, SEND 0, OUT, "
                + "PUSH 7, NEW, " + endings[i]);
            host.run(5);
            if (states[i] == 5) {
                Check.due("used before the end", host.used(0), 3);
                Check.due("live before the end", host.live(0), 3);
                Check.due("messages before the end", host.messages(0), 1);
                Check.due("local before the end", host.local(0, 1), 4);
                Check.due("look before the end", host.look(0, 0, 0), 5);
                host.run(40);
            }
            Check.due("state by " + endings[i], host.state(0), states[i]);
            Check.due("used", host.used(0), 0);
            Check.due("live", host.live(0), 0);
            Check.due("messages", host.messages(0), 0);
            Check.due("local", host.local(0, 1), 0);
            Check.due("look", host.look(0, 0, 0), 0);
            Check.due("outputs", host.output(0, -1), 2);
            Check.due("output 0", host.output(0, 0), 6);
            Check.due("output 1", host.output(0, 1), 1);
        }
    }
}
