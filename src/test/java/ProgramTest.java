/** Promises 2 (code) and 3 (clear). */
public final class ProgramTest {
    private static final int[] HIGHEST_ARG = {
        0, 0, 0, 0, 0, 0, 0, 3, 3, 0, 0, 0, 2, 2, 0, 0, 7, 23, 23, 0, 0, 3, 0, 3, 3};

    public static void main(String[] args) {
        codeAnswersPositions();
        codeLooksAtTheArg();
        codeRefusesWrongInputs();
        codeRefusedChangesNothing();
        clearTakesAllAway();
        clearRefuses();
        Check.done();
    }

    private static void codeAnswersPositions() {
        TenantHost host = new TenantHost(1);
        for (int p = 0; p < 4; p++) {
            for (int i = 0; i < 24; i++) {
                Check.due("position", host.code(p, 0, 0), i);
            }
            Check.due("a 25th instruction", host.code(p, 0, 0), -1);
        }
    }

    private static void codeLooksAtTheArg() {
        for (int op = 0; op <= 24; op++) {
            TenantHost host = new TenantHost(1);
            boolean any = op == 1;
            int highest = HIGHEST_ARG[op];
            Check.due("lowest arg of op " + op, host.code(0, op, 0), 0);
            Check.due("highest arg of op " + op, host.code(0, op, highest), 1);
            Check.due("arg above of op " + op, host.code(0, op, highest + 1), any ? 2 : -1);
            Check.due("arg -1 of op " + op, host.code(0, op, -1), any ? 3 : -1);
            Check.due("arg far above of op " + op, host.code(0, op, Integer.MAX_VALUE), any ? 4 : -1);
            Check.due("arg far below of op " + op, host.code(0, op, Integer.MIN_VALUE), any ? 5 : -1);
            Check.due("what was refused is not there, op " + op, host.code(0, 0, 0), any ? 6 : 2);
        }
    }

    private static void codeRefusesWrongInputs() {
        TenantHost host = new TenantHost(1);
        int[] noPrograms = {-1, 4, Integer.MIN_VALUE, Integer.MAX_VALUE};
        for (int p : noPrograms) {
            Check.due("code of program " + p, host.code(p, 0, 0), -1);
        }
        int[] noOps = {-1, 25, Integer.MIN_VALUE, Integer.MAX_VALUE};
        for (int op : noOps) {
            Check.due("code of op " + op, host.code(0, op, 0), -1);
        }
        Code.sealed(host, 0, "HALT");
        Check.due("code of a sealed program", host.code(0, 0, 0), -1);
        Check.due("the other programs are open", host.code(1, 0, 0), 0);
    }

    private static void codeRefusedChangesNothing() {
        TenantHost host = new TenantHost(8);
        Code.write(host, 0, "PUSH 5");
        host.code(0, 7, 9);
        host.code(0, 30, 0);
        Code.write(host, 0, "OUT, HALT");
        Check.yes("seal", host.seal(0));
        host.code(0, 0, 0);
        Check.due("no position was added", host.shape(0, 3), -1);
        host.reserve(0, 1, 10);
        host.launch(0, 0);
        host.run(1);
        Check.due("output", host.output(0, 0), 5);
    }

    private static void clearTakesAllAway() {
        TenantHost host = new TenantHost(8);
        Check.yes("clear of an empty program", host.clear(0));
        Code.write(host, 0, "POP, POP, POP");
        Code.write(host, 1, "HALT, HALT");
        Check.yes("clear", host.clear(0));
        Check.due("the other program is as it was", host.code(1, 0, 0), 2);
        Check.no("an empty program is not sealed", host.seal(0));
        Check.due("first position", host.code(0, 0, 0), 0);
        Check.yes("nothing of the old one is left", host.seal(0));
        Check.due("positions", host.shape(0, 1), -1);
    }

    private static void clearRefuses() {
        TenantHost host = new TenantHost(8);
        int[] noPrograms = {-1, 4, Integer.MIN_VALUE, Integer.MAX_VALUE};
        for (int p : noPrograms) {
            Check.no("clear of program " + p, host.clear(p));
        }
        Code.sealed(host, 3, "HALT");
        Check.no("clear of a sealed program", host.clear(3));
        Check.due("it is as it was", host.shape(3, 0), 1);
    }
}
