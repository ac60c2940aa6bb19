/** Promise 1. */
public final class NewObjectTest {
    public static void main(String[] args) {
        nothingIsThere();
        nothingIsPermitted();
        lengthIsOneToEight();
        Check.done();
    }

    private static void nothingIsThere() {
        TenantHost host = new TenantHost(3);
        Check.due("run(0)", host.run(0), 0);
        for (int i = 0; i < 4; i++) {
            Check.no("seal of an empty program", host.seal(i));
            Check.due("shape", host.shape(i, 0), -1);
            Check.no("launch", host.launch(i, i));
            Check.due("state", host.state(i), 0);
            Check.due("steps", host.steps(i), 0);
            Check.due("used", host.used(i), 0);
            Check.due("live", host.live(i), 0);
            Check.due("collections", host.collections(i), 0);
            Check.due("ended", host.ended(i), -1);
            Check.due("messages", host.messages(i), 0);
            Check.due("output count", host.output(i, -1), 0);
            Check.due("output", host.output(i, 0), 0);
            Check.due("local 0", host.local(i, 0), 0);
            Check.due("local 1", host.local(i, 1), 0);
            Check.due("look", host.look(i, 0, 0), 0);
            Check.due("first position", host.code(i, 0, 0), 0);
        }
        Check.due("first shared cell", host.share(1, -1, -1), 0);
    }

    private static void nothingIsPermitted() {
        String[] attempts = {"NIL, SEND 0, HALT", "PUSH 0, START 0, HALT", "STOP 0, HALT", "STOP 3, HALT"};
        for (String attempt : attempts) {
            Check.due("state after " + attempt, Code.ran(attempt).state(0), 10);
        }
        TenantHost host = Code.ran("IN, OUT, SHARED 0, NIL, SAME, OUT, HALT");
        Check.due("input when nothing is fed", host.output(0, 0), 0);
        Check.due("a shared cell is null when nothing is shared", host.output(0, 1), 1);
    }

    private static void lengthIsOneToEight() {
        int[][] lengthsAndSteps = {
            {Integer.MIN_VALUE, 1}, {-1, 1}, {0, 1}, {1, 1}, {2, 2}, {7, 7}, {8, 8}, {9, 8}, {Integer.MAX_VALUE, 8}};
        for (int[] pair : lengthsAndSteps) {
            TenantHost host = new TenantHost(pair[0]);
            Code.launched(host, 0, 1, 3000, "JUMP 0");
            host.run(1);
            Check.due("steps in a slice of length " + pair[0], host.steps(0), pair[1]);
        }
    }
}
