/** START and STOP: what tenants do to one another (promises 8, 9, 12 and 17). */
public final class OtherTenantTest {
    public static void main(String[] args) {
        startLaunches();
        startedOneBeginsInItsSlice();
        startWithItsOwnProgram();
        startWithNoProgram();
        startWithAnOpenProgram();
        startOfOneNotReserved();
        startOfOneAlive();
        startOfOneEnded();
        startOfItself();
        startOnce();
        startIsDenied();
        stopKills();
        stopKillsOneThatWaits();
        stopLeavesOutputsAndSteps();
        stopOfOneIdle();
        stopOfOneEnded();
        stopOfItself();
        stopIsDenied();
        Check.done();
    }

    /** Tenant 1 may do all to all. */
    private static TenantHost master() {
        TenantHost host = new TenantHost(8);
        for (int t = 0; t < 4; t++) {
            host.permit(1, t, 7);
        }
        return host;
    }

    /** Runs tenant 1 with the attempt for one slice; what the attempt put is due. */
    private static void puts(int due, TenantHost host, String attempt) {
        Code.launched(host, 1, 1, 50, attempt + ", OUT, RECEIVE, HALT");
        host.run(2);
        Check.due("what " + attempt + " put", host.output(1, 0), due);
        Check.due("outputs after " + attempt, host.output(1, -1), 1);
        Check.due("tenant 1 goes on after " + attempt, host.state(1), 2);
    }

    private static void startLaunches() {
        Check.says("1, and tenant arg is launched with the program whose number was taken");
        int[] others = {0, 2, 3};
        for (int other : others) {
            TenantHost host = master();
            Code.sealed(host, 3, "PUSH 8, OUT, JUMP 2");
            host.reserve(other, 1, 50);
            puts(1, host, "PUSH 3, START " + other);
            Check.due("started", host.state(other), 1);
            host.run(4);
            Check.due("its program", host.output(other, 0), 8);
            Check.no("it is launched", host.launch(other, 3));
        }
    }

    private static void startedOneBeginsInItsSlice() {
        Check.says("then it is RUNNING at position 0");
        TenantHost host = new TenantHost(4);
        host.permit(1, 0, 2);
        host.permit(1, 2, 2);
        Code.sealed(host, 3, "JUMP 0");
        host.reserve(0, 1, 50);
        host.reserve(2, 1, 50);
        Code.launched(host, 1, 1, 50, "PUSH 3, START 0, PUSH 3, START 2, HALT");
        host.run(2);
        Check.due("no step yet", host.steps(2), 0);
        host.run(1);
        Check.due("its slice comes next", host.steps(2), 4);
        Check.due("the slice of the other comes later", host.steps(0), 0);
        host.run(2);
        Check.due("its slice", host.steps(0), 4);
    }

    private static void startWithItsOwnProgram() {
        Check.says("tenant arg is launched with the program whose number was taken");
        TenantHost host = master();
        host.reserve(2, 1, 50);
        puts(1, host, "PUSH 1, START 2");
        host.run(1);
        Check.due("the other may not start itself", host.state(2), 10);
        Check.due("steps", host.steps(2), 2);
    }

    private static void startWithNoProgram() {
        Check.says("when it can be launched with it; otherwise 0");
        for (int p : Check.NOT_0_TO_3) {
            TenantHost host = master();
            host.reserve(2, 1, 50);
            puts(0, host, "PUSH " + p + ", START 2");
            Check.due("idle", host.state(2), 0);
        }
    }

    private static void startWithAnOpenProgram() {
        Check.says("it can be when .. the program is sealed");
        TenantHost open = master();
        Code.write(open, 0, "HALT");
        open.reserve(2, 1, 50);
        puts(0, open, "PUSH 0, START 2");
        Check.due("idle", open.state(2), 0);
        TenantHost empty = master();
        empty.reserve(2, 1, 50);
        puts(0, empty, "PUSH 3, START 2");
        Check.due("idle", empty.state(2), 0);
    }

    private static void startOfOneNotReserved() {
        Check.says("it can be when it is .. reserved");
        TenantHost host = master();
        Code.sealed(host, 0, "HALT");
        puts(0, host, "PUSH 0, START 2");
        Check.due("idle", host.state(2), 0);
        host.reserve(2, 1, 50);
        Check.yes("launch when it is reserved", host.launch(2, 0));
    }

    private static void startOfOneAlive() {
        Check.says("it can be when it is IDLE");
        TenantHost host = master();
        Code.launched(host, 0, 1, 50, "JUMP 1, JUMP 1");
        puts(0, host, "PUSH 0, START 0");
        Check.due("running", host.state(0), 1);
        TenantHost waiting = master();
        Code.launched(waiting, 0, 1, 50, "PUSH 1, RECEIVE, HALT");
        puts(0, waiting, "PUSH 0, START 0");
        Check.due("waiting", waiting.state(0), 2);
        waiting.run(4);
        Check.due("it did not begin anew", waiting.steps(0), 1);
    }

    private static void startOfOneEnded() {
        Check.says("(so once: one that ended never is again)");
        TenantHost host = master();
        Code.launched(host, 0, 1, 50, "HALT");
        puts(0, host, "PUSH 0, START 0");
        host.run(4);
        Check.due("done", host.state(0), 3);
        Check.due("steps", host.steps(0), 1);
        Check.due("ended", host.ended(0), 0);
    }

    private static void startOfItself() {
        Check.says("when it can be launched with it; otherwise 0");
        TenantHost host = master();
        puts(0, host, "PUSH 1, START 1");
        Check.due("it did not begin anew", host.steps(1), 3);
    }

    private static void startOnce() {
        Check.says("(so once: one that ended never is again)");
        TenantHost host = master();
        Code.sealed(host, 3, "HALT");
        host.reserve(2, 1, 50);
        Code.launched(host, 1, 1, 50, "PUSH 3, START 2, OUT, PUSH 3, START 2, OUT, STOP 2, OUT, PUSH 3, START 2, OUT, HALT");
        host.run(8);
        int[] outputs = {1, 0, 1, 0};
        for (int k = 0; k < 4; k++) {
            Check.due("output " + k, host.output(1, k), outputs[k]);
        }
        Check.due("stopped before it had a slice", host.state(2), 4);
        Check.due("steps", host.steps(2), 0);
    }

    private static void startIsDenied() {
        Check.says("START: DENIED unless the tenant may start tenant arg");
        TenantHost host = new TenantHost(8);
        host.permit(0, 1, 5);
        host.permit(1, 0, 7);
        host.reserve(1, 1, 10);
        Code.launched(host, 0, 1, 10, "PUSH 0, START 1, OUT, HALT");
        host.run(1);
        Check.due("denied", host.state(0), 10);
        Check.due("steps", host.steps(0), 2);
        Check.due("idle", host.state(1), 0);
        TenantHost never = new TenantHost(8);
        Code.launched(never, 0, 1, 10, "PUSH 9, START 1, OUT, HALT");
        never.run(1);
        Check.due("denied also when it could not be launched", never.state(0), 10);
    }

    private static void stopKills() {
        Check.says("otherwise it ends, KILLED .. and 1");
        TenantHost host = master();
        Code.launched(host, 0, 2, 50, "PUSH 4, NEW, STORE 2, PUSH 5, STORE 0, JUMP 5");
        puts(1, host, "STOP 0");
        Check.due("killed", host.state(0), 4);
        Check.due("in this slice", host.ended(0), 1);
        Check.due("its cells are gone", host.used(0), 0);
        Check.due("its locals are gone", host.local(0, 0), 0);
        Check.due("its locals are gone", host.look(0, 0, 0), 0);
        Check.no("it is never launched again", host.launch(0, 0));
    }

    private static void stopKillsOneThatWaits() {
        Check.says("It is ALIVE in 1 and 2");
        TenantHost host = master();
        Code.launched(host, 0, 2, 50, "PUSH 4, NEW, RECEIVE, HALT");
        host.run(1);
        Check.due("waiting", host.state(0), 2);
        puts(1, host, "STOP 0");
        Check.due("killed", host.state(0), 4);
        Check.due("used", host.used(0), 0);
    }

    private static void stopLeavesOutputsAndSteps() {
        Check.says("Its outputs, counts and steps stay");
        TenantHost host = master();
        Code.launched(host, 0, 1, 50, "PUSH 3, OUT, PUSH 4, NEW, POP, PUSH 4, NEW, JUMP 7");
        puts(1, host, "STOP 0");
        host.run(8);
        Check.due("steps", host.steps(0), 8);
        Check.due("output", host.output(0, 0), 3);
        Check.due("collections", host.collections(0), 1);
        Check.due("ended", host.ended(0), 1);
    }

    private static void stopOfOneIdle() {
        Check.says("0 when tenant arg is not ALIVE");
        TenantHost host = master();
        host.reserve(2, 1, 50);
        puts(0, host, "STOP 2");
        Check.due("idle still", host.state(2), 0);
        Check.due("not ended", host.ended(2), -1);
        Check.yes("it can be launched", host.launch(2, 1));
    }

    private static void stopOfOneEnded() {
        Check.says("0 when tenant arg is not ALIVE");
        TenantHost host = master();
        Code.launched(host, 0, 1, 50, "HALT");
        puts(0, host, "STOP 0");
        Check.due("done still", host.state(0), 3);
        Check.due("ended still", host.ended(0), 0);
    }

    private static void stopOfItself() {
        Check.says("(if that is the tenant itself nothing is put)");
        TenantHost host = new TenantHost(8);
        host.permit(0, 0, 4);
        Code.launched(host, 0, 1, 50, "PUSH 1, NEW, STOP 0, OUT, HALT");
        host.run(5);
        Check.due("killed", host.state(0), 4);
        Check.due("it is one of its steps", host.steps(0), 3);
        Check.due("ended", host.ended(0), 0);
        Check.due("nothing more was done", host.output(0, -1), 0);
        Check.due("live", host.live(0), 0);
    }

    private static void stopIsDenied() {
        Check.says("STOP: DENIED unless the tenant may stop tenant arg");
        TenantHost host = new TenantHost(8);
        host.permit(0, 1, 3);
        host.permit(1, 0, 7);
        Code.launched(host, 0, 1, 10, "STOP 1, OUT, HALT");
        Code.launched(host, 1, 1, 10, "JUMP 0");
        host.run(1);
        Check.due("denied", host.state(0), 10);
        Check.due("steps", host.steps(0), 1);
        Check.due("the other runs", host.state(1), 1);
        TenantHost idle = new TenantHost(8);
        Code.launched(idle, 0, 1, 10, "STOP 1, OUT, HALT");
        idle.run(1);
        Check.due("denied also when the other is idle", idle.state(0), 10);
        TenantHost itself = new TenantHost(8);
        itself.permit(0, 0, 3);
        Code.launched(itself, 0, 1, 10, "STOP 0, OUT, HALT");
        itself.run(1);
        Check.due("denied to itself", itself.state(0), 10);
    }
}
