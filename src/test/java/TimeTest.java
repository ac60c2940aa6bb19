/** Promises 11 (run), 12 (state), 13 (steps) and 17 (ended). */
public final class TimeTest {
    private static final int[] NO_TENANTS = {-1, 4, Integer.MIN_VALUE, Integer.MAX_VALUE};

    public static void main(String[] args) {
        runCountsSlices();
        runRefuses();
        slicesBelongToTenantsInTurn();
        sliceDoesNotHangOnOthers();
        stepsAreAtMostTheReserved();
        spentIsSeenBeforeAnInstruction();
        waitingTakesTheRestOfTheSlice();
        endedTellsTheSlice();
        thereAreFourTenants();
        Check.done();
    }

    private static void runCountsSlices() {
        TenantHost host = new TenantHost(8);
        Check.due("run(0)", host.run(0), 0);
        Check.due("run(1)", host.run(1), 1);
        Check.due("run(199)", host.run(199), 200);
        Check.due("run(200)", host.run(200), 400);
        Check.due("run(0)", host.run(0), 400);
    }

    private static void runRefuses() {
        TenantHost host = new TenantHost(8);
        Code.launched(host, 0, 1, 100, "JUMP 0");
        host.run(2);
        int[] refused = {-1, 201, Integer.MIN_VALUE, Integer.MAX_VALUE};
        for (int n : refused) {
            Check.due("run(" + n + ")", host.run(n), 2);
            Check.due("steps", host.steps(0), 8);
        }
    }

    private static void slicesBelongToTenantsInTurn() {
        TenantHost host = new TenantHost(3);
        Code.sealed(host, 0, "JUMP 0");
        for (int t = 0; t < 4; t++) {
            host.reserve(t, 1, 3000);
            host.launch(t, 0);
        }
        for (int k = 0; k < 10; k++) {
            host.run(1);
            for (int t = 0; t < 4; t++) {
                int slices = k / 4 + (k % 4 >= t ? 1 : 0);
                Check.due("steps of tenant " + t + " after slice " + k, host.steps(t), 3 * slices);
            }
        }
    }

    private static void sliceDoesNotHangOnOthers() {
        TenantHost host = new TenantHost(5);
        Code.launched(host, 2, 1, 3000, "JUMP 0");
        host.run(2);
        Check.due("not its slice yet", host.steps(2), 0);
        host.run(1);
        Check.due("its first slice", host.steps(2), 5);
        host.run(3);
        Check.due("slices of idle tenants take their time", host.steps(2), 5);
        host.run(1);
        Check.due("its second slice", host.steps(2), 10);
    }

    private static void stepsAreAtMostTheReserved() {
        TenantHost host = new TenantHost(8);
        Code.launched(host, 0, 1, 3000, "JUMP 0");
        for (int i = 0; i < 7; i++) {
            host.run(200);
        }
        host.run(100);
        Check.due("steps after 375 slices", host.steps(0), 3000);
        Check.due("running", host.state(0), 1);
        host.run(1);
        Check.due("spent", host.state(0), 5);
        Check.due("steps stay", host.steps(0), 3000);
        Check.due("ended", host.ended(0), 1500);
    }

    private static void spentIsSeenBeforeAnInstruction() {
        for (int steps = 1; steps <= 5; steps++) {
            TenantHost host = new TenantHost(4);
            Code.launched(host, 1, 1, steps, "PUSH 1, POP, PUSH 1, POP, HALT");
            host.run(2);
            Check.due("state after a slice of 4 with " + steps, host.state(1), steps < 4 ? 5 : 1);
            Check.due("steps", host.steps(1), Math.min(steps, 4));
            host.run(4);
            Check.due("state after two slices with " + steps, host.state(1), steps < 5 ? 5 : 3);
            Check.due("steps", host.steps(1), steps);
            Check.due("ended", host.ended(1), steps < 4 ? 1 : 5);
        }
        TenantHost host = new TenantHost(8);
        Code.launched(host, 0, 1, 2, "PUSH 1, POP, RECEIVE, HALT");
        host.run(1);
        Check.due("steps are looked at before RECEIVE", host.state(0), 5);
    }

    private static void waitingTakesTheRestOfTheSlice() {
        TenantHost host = new TenantHost(4);
        host.permit(1, 0, 1);
        Code.launched(host, 0, 1, 100, "PUSH 1, RECEIVE, POP, OUT, JUMP 0");
        Code.launched(host, 1, 1, 100, "IN, ZERO 0, NIL, SEND 0, POP, JUMP 0");
        host.run(1);
        Check.due("waiting", host.state(0), 2);
        Check.due("no step is counted", host.steps(0), 1);
        host.run(8);
        Check.due("waiting still", host.state(0), 2);
        Check.due("no step is counted when tried again", host.steps(0), 1);
        host.feed(1, 1);
        host.run(1);
        Check.due("a message has come", host.messages(0), 1);
        host.run(2);
        Check.due("waiting till its slice", host.state(0), 2);
        host.run(1);
        Check.due("RECEIVE, POP, OUT, JUMP were done", host.steps(0), 5);
        Check.due("running", host.state(0), 1);
        Check.due("output", host.output(0, 0), 1);
        host.run(4);
        Check.due("PUSH was done", host.steps(0), 6);
        Check.due("waiting again", host.state(0), 2);
        Check.due("it has not ended", host.ended(0), -1);
    }

    private static void endedTellsTheSlice() {
        TenantHost host = new TenantHost(8);
        host.permit(3, 1, 4);
        host.permit(3, 3, 4);
        Code.launched(host, 1, 1, 100, "JUMP 0");
        Code.launched(host, 2, 1, 100, "HALT");
        host.run(6);
        Code.launched(host, 3, 1, 100, "STOP 1, OUT, STOP 1, OUT, STOP 3, HALT");
        Check.due("not ended", host.ended(1), -1);
        Check.due("ended in its first slice", host.ended(2), 2);
        host.run(2);
        Check.due("stopped in another's slice", host.ended(1), 7);
        Check.due("stopped itself", host.ended(3), 7);
        host.run(9);
        Check.due("it stays", host.ended(1), 7);
    }

    private static void thereAreFourTenants() {
        TenantHost host = new TenantHost(8);
        for (int t : NO_TENANTS) {
            Check.due("state of tenant " + t, host.state(t), -1);
            Check.due("steps of tenant " + t, host.steps(t), -1);
            Check.due("used of tenant " + t, host.used(t), -1);
            Check.due("live of tenant " + t, host.live(t), -1);
            Check.due("collections of tenant " + t, host.collections(t), -1);
            Check.due("ended of tenant " + t, host.ended(t), -1);
            Check.due("messages of tenant " + t, host.messages(t), -1);
            Check.due("output of tenant " + t, host.output(t, 0), 0);
            Check.due("output count of tenant " + t, host.output(t, -1), 0);
            Check.due("local of tenant " + t, host.local(t, 0), 0);
            Check.due("look of tenant " + t, host.look(t, 0, 0), 0);
        }
    }
}
