/** Promises 19 (output), 20 (local) and 21 (look). */
public final class ResultTest {
    public static void main(String[] args) {
        outputsAreCounted();
        outputsOutOfRange();
        localsAreNumbers();
        lookGoesLeftAndRight();
        lookOutOfRange();
        lookGoesThirtySteps();
        Check.done();
    }

    private static void outputsAreCounted() {
        TenantHost host = new TenantHost(8);
        Code.launched(host, 2, 1, 3000, "LOAD 0, OUT, LOAD 0, PUSH 1, ADD, STORE 0, LOAD 0, PUSH 16, SUB, ZERO 11, "
            + "JUMP 0, RECEIVE, HALT");
        host.run(200);
        Check.due("sixteen outputs do not end it", host.state(2), 2);
        Check.due("count", host.output(2, -1), 16);
        for (int k = 0; k < 16; k++) {
            Check.due("output " + k, host.output(2, k), k);
        }
        Check.due("output 16", host.output(2, 16), 0);
    }

    private static void outputsOutOfRange() {
        TenantHost host = Code.ran("PUSH 5, OUT, PUSH 6, OUT, HALT");
        int[] none = {2, 15, 16, -2, Integer.MIN_VALUE, Integer.MAX_VALUE};
        for (int k : none) {
            Check.due("output " + k, host.output(0, k), 0);
        }
        Check.due("outputs of another", host.output(1, -1), 0);
        Check.due("output of another", host.output(1, 0), 0);
    }

    private static void localsAreNumbers() {
        TenantHost host = Code.ran("PUSH 5, STORE 0, PUSH -6, STORE 1, PUSH 7, NEW, STORE 2, SHARED 0, STORE 3, "
            + "RECEIVE, HALT");
        Check.due("local 0", host.local(0, 0), 5);
        Check.due("local 1", host.local(0, 1), -6);
        int[] none = {2, 3, 4, -1, Integer.MIN_VALUE, Integer.MAX_VALUE};
        for (int k : none) {
            Check.due("local " + k, host.local(0, k), 0);
        }
        Check.due("local of another", host.local(1, 0), 0);
    }

    private static TenantHost tree() {
        TenantHost host = new TenantHost(8);
        host.share(90, -1, -1);
        host.share(91, 0, -1);
        // 1 with 2 to the left and 3 to the right; 2 has the shared cells to its right.
        Code.launched(host, 1, 3, 100, "PUSH 1, NEW, STORE 2, LOAD 2, PUSH 2, NEW, SET 1, LOAD 2, PUSH 3, NEW, SET 2, "
            + "LOAD 2, GET 1, SHARED 1, SET 2, RECEIVE, HALT");
        host.run(20);
        return host;
    }

    private static void lookGoesLeftAndRight() {
        TenantHost host = tree();
        Check.due("itself", host.look(1, 0, 0), 1);
        Check.due("itself, bits not looked at", host.look(1, -1, 0), 1);
        Check.due("left", host.look(1, 0, 1), 2);
        Check.due("left, bits not looked at", host.look(1, -2, 1), 2);
        Check.due("right", host.look(1, 1, 1), 3);
        Check.due("right, bits not looked at", host.look(1, -1, 1), 3);
        Check.due("left, right", host.look(1, 2, 2), 91);
        Check.due("left, right, left", host.look(1, 2, 3), 90);
        Check.due("left, left", host.look(1, 0, 2), 0);
        Check.due("right, left", host.look(1, 1, 2), 0);
        Check.due("over null", host.look(1, 0, 30), 0);
        Check.due("of another", host.look(0, 0, 0), 0);
    }

    private static void lookOutOfRange() {
        TenantHost host = Code.ran("PUSH 4, NEW, DUP, STORE 2, DUP, SET 1, LOAD 2, LOAD 2, SET 2, RECEIVE, HALT");
        int[] none = {-1, 31, 32, Integer.MIN_VALUE, Integer.MAX_VALUE};
        for (int n : none) {
            Check.due("look of " + n, host.look(0, 0, n), 0);
        }
        Check.due("look of 30", host.look(0, 0, 30), 4);
        Check.due("only local 2 is looked at",
            Code.ran("PUSH 4, NEW, STORE 3, RECEIVE, HALT").look(0, 0, 0), 0);
    }

    private static void lookGoesThirtySteps() {
        // A ring of two cells, 1 and 2, that goes on by the left alone; the right of 2 is 2 itself.
        TenantHost host = Code.ran("PUSH 1, NEW, STORE 2, PUSH 2, NEW, STORE 3, LOAD 2, LOAD 3, SET 1, LOAD 3, LOAD 2, "
            + "SET 1, LOAD 3, LOAD 3, SET 2, RECEIVE, HALT");
        for (int n = 0; n <= 30; n++) {
            Check.due("to the left " + n, host.look(0, 0, n), n % 2 + 1);
        }
        Check.due("bit 29 counts in the 30th step", host.look(0, 1 << 29, 30), 2);
        Check.due("bit 28 breaks off before", host.look(0, 1 << 28, 30), 0);
        Check.due("bits 30 and 31 do not count", host.look(0, 3 << 30, 30), 1);
    }
}
