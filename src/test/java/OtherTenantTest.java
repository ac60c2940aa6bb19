/** START and STOP: what tenants do to one another (promises 8, 9, 12 and 17). */
public final class OtherTenantTest {
    public static void main(String[] args) {
        startLaunches();
        startAnswersZero();
        startIsDenied();
        stopKills();
        stopAnswersZero();
        stopOfItself();
        stopIsDenied();
        Check.done();
    }

    private static void startLaunches() {
        TenantHost host = new TenantHost(4);
        host.permit(1, 0, 2);
        host.permit(1, 2, 2);
        Code.sealed(host, 3, "PUSH 8, OUT, JUMP 2");
        host.reserve(0, 1, 50);
        host.reserve(2, 1, 50);
        Code.launched(host, 1, 1, 50, "PUSH 3, START 0, PUSH 3, START 2, OUT, OUT, HALT");
        host.run(2);
        Check.due("started", host.state(0), 1);
        Check.due("started", host.state(2), 1);
        Check.due("no step yet", host.steps(2), 0);
        host.run(1);
        Check.due("its slice comes next", host.steps(2), 4);
        Check.due("output", host.output(2, 0), 8);
        Check.due("the slice of the other comes later", host.steps(0), 0);
        host.run(3);
        Check.due("its slice", host.steps(0), 4);
        Check.due("START put 1", host.output(1, 0), 1);
        Check.due("START put 1", host.output(1, 1), 1);
        Check.no("it is launched", host.launch(0, 3));
    }

    private static void startAnswersZero() {
        TenantHost host = new TenantHost(8);
        for (int t = 0; t < 4; t++) {
            host.permit(1, t, 2);
        }
        Code.sealed(host, 0, "HALT");
        Code.write(host, 2, "HALT");
        host.reserve(0, 1, 10);
        host.reserve(2, 1, 10);
        host.launch(0, 0);
        host.run(1);
        String[] attempts = {
            "PUSH 0, START 0", "PUSH 0, START 1", "PUSH 2, START 2", "PUSH 3, START 2", "PUSH 4, START 2",
            "PUSH -1, START 2", "PUSH 0, START 3"};
        StringBuilder text = new StringBuilder();
        for (String attempt : attempts) {
            text.append(attempt).append(", OUT, ");
        }
        Code.launched(host, 1, 1, 50, text + "HALT");
        host.run(40);
        Check.due("outputs", host.output(1, -1), attempts.length);
        for (int k = 0; k < attempts.length; k++) {
            Check.due(attempts[k], host.output(1, k), 0);
        }
        Check.due("done", host.state(0), 3);
        Check.due("done", host.state(1), 3);
        Check.due("idle", host.state(2), 0);
        Check.due("idle", host.state(3), 0);
    }

    private static void startIsDenied() {
        TenantHost host = new TenantHost(8);
        host.permit(0, 1, 5);
        host.reserve(1, 1, 10);
        Code.launched(host, 0, 1, 10, "PUSH 0, START 1, OUT, HALT");
        host.run(1);
        Check.due("denied", host.state(0), 10);
        Check.due("steps", host.steps(0), 2);
        Check.due("idle", host.state(1), 0);
    }

    private static void stopKills() {
        TenantHost host = new TenantHost(8);
        host.permit(2, 0, 4);
        host.permit(2, 1, 4);
        Code.launched(host, 0, 2, 50, "PUSH 3, OUT, PUSH 4, NEW, STORE 2, PUSH 5, STORE 0, JUMP 7");
        Code.launched(host, 1, 2, 50, "PUSH 4, NEW, RECEIVE, HALT");
        Code.launched(host, 2, 2, 50, "STOP 0, OUT, STOP 1, OUT, STOP 1, OUT, HALT");
        host.run(2);
        Check.due("used", host.used(0), 1);
        Check.due("waiting", host.state(1), 2);
        int steps = host.steps(0);
        host.run(1);
        Check.due("one that ran is killed", host.state(0), 4);
        Check.due("one that waited is killed", host.state(1), 4);
        Check.due("in this slice", host.ended(0), 2);
        Check.due("in this slice", host.ended(1), 2);
        Check.due("its steps stay", host.steps(0), steps);
        Check.due("its outputs stay", host.output(0, 0), 3);
        Check.due("its cells are gone", host.used(0), 0);
        Check.due("its cells are gone", host.used(1), 0);
        Check.due("its locals are gone", host.local(0, 0), 0);
        Check.due("its locals are gone", host.look(0, 0, 0), 0);
        Check.due("STOP put 1", host.output(2, 0), 1);
        Check.due("STOP put 1", host.output(2, 1), 1);
        Check.due("STOP of one that ended put 0", host.output(2, 2), 0);
        host.run(8);
        Check.due("it does nothing more", host.steps(0), steps);
        Check.no("it is never launched again", host.launch(0, 0));
    }

    private static void stopAnswersZero() {
        TenantHost host = new TenantHost(8);
        host.permit(2, 0, 4);
        host.permit(2, 1, 4);
        Code.launched(host, 0, 1, 50, "HALT");
        host.reserve(1, 1, 50);
        Code.launched(host, 2, 1, 50, "STOP 0, OUT, STOP 1, OUT, HALT");
        host.run(3);
        Check.due("STOP of one that is done", host.output(2, 0), 0);
        Check.due("STOP of one that is idle", host.output(2, 1), 0);
        Check.due("done still", host.state(0), 3);
        Check.due("ended still", host.ended(0), 0);
        Check.due("idle still", host.state(1), 0);
        Check.yes("it can be launched", host.launch(1, 0));
    }

    private static void stopOfItself() {
        TenantHost host = new TenantHost(8);
        host.permit(0, 0, 4);
        Code.launched(host, 0, 1, 50, "PUSH 1, STOP 0, OUT, OUT, HALT");
        host.run(5);
        Check.due("killed", host.state(0), 4);
        Check.due("it is one of its steps", host.steps(0), 2);
        Check.due("ended", host.ended(0), 0);
        Check.due("nothing more was done", host.output(0, -1), 0);
    }

    private static void stopIsDenied() {
        TenantHost host = new TenantHost(8);
        host.permit(0, 1, 3);
        Code.launched(host, 0, 1, 10, "STOP 1, OUT, HALT");
        Code.launched(host, 1, 1, 10, "JUMP 0");
        host.run(1);
        Check.due("denied", host.state(0), 10);
        Check.due("steps", host.steps(0), 1);
        Check.due("the other runs", host.state(1), 1);
    }
}
