/** Promises 19 (output), 20 (local) and 21 (look). */
public final class ResultTest {
    public static void main(String[] args) {
        outputsFromZero();
        outputOfMinusOneIsTheCount();
        noSuchOutput();
        outputOfNoTenant();
        localsZeroAndOne();
        noSuchLocal();
        localOfNoTenant();
        lookAtItself();
        lookGoesLeftAndRight();
        lookGoesOnIntoSharedCells();
        otherBitsAreNotLookedAt();
        lookFindsNull();
        lookGoesOverNull();
        lookGoesZeroToThirtySteps();
        lookOutOfRange();
        lookAtLocalTwoAlone();
        lookOfNoTenant();
        Check.done();
    }

    private static void outputsFromZero() {
        Check.says("Output k (from 0) of tenant t");
        TenantHost host = new TenantHost(8);
        for (int t = 0; t < 4; t++) {
            Code.launched(host, t, 1, 50, "PUSH " + (t + 10) + ", OUT, PUSH " + Check.MIN + ", OUT, HALT");
        }
        host.run(4);
        for (int t = 0; t < 4; t++) {
            Check.due("output(" + t + ", 0)", host.output(t, 0), t + 10);
            Check.due("output(" + t + ", 1)", host.output(t, 1), Check.MIN);
        }
    }

    private static void outputOfMinusOneIsTheCount() {
        Check.says("When k is -1 and there is a tenant t: how many it has");
        TenantHost host = new TenantHost(2);
        Code.launched(host, 2, 1, 50, "PUSH 7, OUT, JUMP 0");
        Check.due("none", host.output(2, -1), 0);
        host.run(4);
        Check.due("one", host.output(2, -1), 1);
        host.run(200);
        Check.due("sixteen", host.output(2, -1), 16);
        Check.due("of another", host.output(1, -1), 0);
    }

    private static void noSuchOutput() {
        Check.says("0 when .. it has none such");
        TenantHost host = Code.ran("PUSH 5, OUT, PUSH 6, OUT, HALT");
        int[] none = {2, 3, 15, 16, 17, -2, Check.MIN, Check.MAX};
        for (int k : none) {
            Check.due("output(0, " + k + ")", host.output(0, k), 0);
        }
        Check.due("of another", host.output(1, 0), 0);
        TenantHost full = Code.ran("PUSH 9, OUT, JUMP 0");
        Check.due("output(0, 15)", full.output(0, 15), 9);
        int[] behind = {16, 17, -2, Check.MIN, Check.MAX};
        for (int k : behind) {
            Check.due("output(0, " + k + ") of 16", full.output(0, k), 0);
        }
    }

    private static void outputOfNoTenant() {
        Check.says("0 when there is no tenant t .. When k is -1 and there is a tenant t");
        TenantHost host = new TenantHost(8);
        for (int t = 0; t < 4; t++) {
            Code.launched(host, t, 1, 50, "PUSH 5, OUT, HALT");
        }
        host.run(4);
        for (int t : Check.NOT_0_TO_3) {
            Check.due("output(" + t + ", 0)", host.output(t, 0), 0);
            Check.due("output(" + t + ", -1)", host.output(t, -1), 0);
        }
    }

    private static TenantHost withLocals() {
        return Code.ran("PUSH 5, STORE 0, PUSH -6, STORE 1, PUSH 7, NEW, STORE 2, PUSH 8, NEW, STORE 3, RECEIVE, HALT");
    }

    private static void localsZeroAndOne() {
        Check.says("The number in local k of tenant t");
        TenantHost host = withLocals();
        Check.due("local 0", host.local(0, 0), 5);
        Check.due("local 1", host.local(0, 1), -6);
        Check.due("local of another", host.local(1, 0), 0);
        TenantHost edges = Code.ran("PUSH " + Check.MIN + ", STORE 0, PUSH " + Check.MAX + ", STORE 1, RECEIVE, HALT");
        Check.due("local 0", edges.local(0, 0), Check.MIN);
        Check.due("local 1", edges.local(0, 1), Check.MAX);
    }

    private static void noSuchLocal() {
        Check.says("0 when .. k is not 0 or 1");
        int[] none = {2, 3, 4, -1, Check.MIN, Check.MAX};
        for (int k : none) {
            Check.due("local(0, " + k + ")", withLocals().local(0, k), 0);
        }
    }

    private static void localOfNoTenant() {
        Check.says("0 when there is no tenant t");
        TenantHost host = new TenantHost(8);
        for (int t = 0; t < 4; t++) {
            Code.launched(host, t, 1, 50, "PUSH 5, STORE 0, RECEIVE, HALT");
        }
        host.run(4);
        for (int t : Check.NOT_0_TO_3) {
            Check.due("local(" + t + ", 0)", host.local(t, 0), 0);
            Check.due("local(" + t + ", 1)", host.local(t, 1), 0);
        }
    }

    /** In tenant 1: 1 with 2 to the left and 3 to the right; 2 has the shared cells to its right. */
    private static TenantHost tree() {
        TenantHost host = new TenantHost(8);
        host.share(90, -1, -1);
        host.share(91, 0, -1);
        Code.launched(host, 1, 3, 100, "PUSH 1, NEW, STORE 2, LOAD 2, PUSH 2, NEW, SET 1, LOAD 2, PUSH 3, NEW, SET 2, "
            + "LOAD 2, GET 1, SHARED 1, SET 2, RECEIVE, HALT");
        host.run(20);
        return host;
    }

    private static void lookAtItself() {
        Check.says("(n 0: the cell of local 2 itself)");
        Check.due("look(1, 0, 0)", tree().look(1, 0, 0), 1);
        Check.due("look(1, -1, 0)", tree().look(1, -1, 0), 1);
        Check.due("look(1, 1, 0)", tree().look(1, 1, 0), 1);
    }

    private static void lookGoesLeftAndRight() {
        Check.says("saying for step j: to the right when it is 1");
        Check.due("left", tree().look(1, 0, 1), 2);
        Check.due("right", tree().look(1, 1, 1), 3);
    }

    private static void lookGoesOnIntoSharedCells() {
        Check.says("The num of the cell found");
        Check.due("left, right", tree().look(1, 2, 2), 91);
        Check.due("left, right, left", tree().look(1, 2, 3), 90);
        Check.due("left, right, right", tree().look(1, 6, 3), 0);
    }

    private static void otherBitsAreNotLookedAt() {
        Check.says("bit j of path (from bit 0 on; others are not looked at)");
        Check.due("left", tree().look(1, -2, 1), 2);
        Check.due("left", tree().look(1, Check.MIN, 1), 2);
        Check.due("right", tree().look(1, -1, 1), 3);
        Check.due("left, right", tree().look(1, -2, 2), 91);
        Check.due("left, right, left", tree().look(1, -6, 3), 90);
    }

    private static void lookFindsNull() {
        Check.says("0 when it is null");
        Check.due("local 2 is null", Code.ran("RECEIVE, HALT").look(0, 0, 0), 0);
        Check.due("left, left", tree().look(1, 0, 2), 0);
        Check.due("right, left", tree().look(1, 1, 2), 0);
        Check.due("right, right", tree().look(1, 3, 2), 0);
        Check.due("of another", tree().look(0, 0, 0), 0);
    }

    private static void lookGoesOverNull() {
        Check.says("0 when .. one on the way is");
        for (int n = 3; n <= 30; n++) {
            Check.due("over null to the left " + n, tree().look(1, 0, n), 0);
            Check.due("over null to the right " + n, tree().look(1, -1, n), 0);
        }
        Check.due("from null", Code.ran("RECEIVE, HALT").look(0, 5, 30), 0);
    }

    private static void lookGoesZeroToThirtySteps() {
        Check.says("n times (0 .. 30) to the left or to the right");
        // A ring of two cells, 1 and 2, that goes on by the left alone; the right of 2 is 2 itself.
        TenantHost host = Code.ran("PUSH 1, NEW, STORE 2, PUSH 2, NEW, STORE 3, LOAD 2, LOAD 3, SET 1, LOAD 3, LOAD 2, "
            + "SET 1, LOAD 3, LOAD 3, SET 2, RECEIVE, HALT");
        for (int n = 0; n <= 30; n++) {
            Check.due("to the left " + n, host.look(0, 0, n), n % 2 + 1);
        }
        Check.due("bit 29 counts in the 30th step", host.look(0, 1 << 29, 30), 2);
        Check.due("bit 28 breaks off before", host.look(0, 1 << 28, 30), 0);
        Check.due("bits 30 and 31 do not count", host.look(0, 3 << 30, 30), 1);
    }

    private static void lookOutOfRange() {
        Check.says("0 when .. n is out of range");
        TenantHost host = Code.ran("PUSH 4, NEW, DUP, STORE 2, DUP, SET 1, LOAD 2, LOAD 2, SET 2, RECEIVE, HALT");
        int[] none = {-1, 31, 32, 33, Check.MIN, Check.MAX};
        for (int n : none) {
            Check.due("look(0, 0, " + n + ")", host.look(0, 0, n), 0);
            Check.due("look(0, -1, " + n + ")", host.look(0, -1, n), 0);
        }
        Check.due("look(0, 0, 30)", host.look(0, 0, 30), 4);
        Check.due("look(0, -1, 30)", host.look(0, -1, 30), 4);
    }

    private static void lookAtLocalTwoAlone() {
        Check.says("From local 2 of tenant t");
        Check.due("local 3", Code.ran("PUSH 4, NEW, STORE 3, RECEIVE, HALT").look(0, 0, 0), 0);
        Check.due("the stack", Code.ran("PUSH 4, NEW, RECEIVE, HALT").look(0, 0, 0), 0);
        Check.due("local 2", Code.ran("PUSH 4, NEW, STORE 2, RECEIVE, HALT").look(0, 0, 0), 4);
    }

    private static void lookOfNoTenant() {
        Check.says("0 when .. there is no tenant t");
        TenantHost host = new TenantHost(8);
        for (int t = 0; t < 4; t++) {
            Code.launched(host, t, 1, 50, "PUSH 5, NEW, STORE 2, RECEIVE, HALT");
        }
        host.run(4);
        for (int t : Check.NOT_0_TO_3) {
            Check.due("look(" + t + ", 0, 0)", host.look(t, 0, 0), 0);
        }
    }
}
