/** Promise 1. */
public final class NewObjectTest {
    public static void main(String[] args) {
        noInstructions();
        nothingReserved();
        nothingPermitted();
        nothingShared();
        nothingFed();
        sliceZeroComesNext();
        nobodyIsLaunched();
        lengthIsAtLeastOne();
        lengthIsAtMostEight();
        lengthBetween();
        objectsAreApart();
        Check.done();
    }

    private static void noInstructions() {
        Check.says("No programs' instructions");
        TenantHost host = new TenantHost(3);
        for (int p = 0; p < 4; p++) {
            Check.no("seal of an empty program", host.seal(p));
            Check.due("shape", host.shape(p, 0), -1);
            Check.due("first position", host.code(p, 0, 0), 0);
        }
    }

    private static void nothingReserved() {
        Check.says("nothing reserved");
        TenantHost host = new TenantHost(3);
        Code.sealed(host, 0, "HALT");
        for (int t = 0; t < 4; t++) {
            Check.no("launch", host.launch(t, 0));
        }
        Check.yes("24 cells", host.reserve(0, 24, 1));
        Check.yes("24 cells more", host.reserve(3, 24, 1));
    }

    private static void nothingPermitted() {
        Check.says("nothing permitted");
        for (int other = 0; other < 4; other++) {
            String[] attempts = {"NIL, SEND " + other, "PUSH 0, START " + other, "STOP " + other};
            for (String attempt : attempts) {
                Check.due("state after " + attempt, Code.ran(attempt + ", HALT").state(0), 10);
            }
        }
    }

    private static void nothingShared() {
        Check.says("nothing shared");
        for (int number = 0; number < 8; number++) {
            TenantHost host = Code.ran("SHARED " + number + ", NIL, SAME, OUT, HALT");
            Check.due("shared cell " + number + " is null", host.output(0, 0), 1);
        }
        Check.due("first shared cell", new TenantHost(3).share(1, -1, -1), 0);
    }

    private static void nothingFed() {
        Check.says("nothing fed");
        TenantHost host = Code.ran("IN, PUSH 1, ADD, OUT, HALT");
        Check.due("0 and 1", host.output(0, 0), 1);
        TenantHost full = new TenantHost(3);
        for (int i = 0; i < 8; i++) {
            Check.yes("feed", full.feed(1, 7));
        }
    }

    private static void sliceZeroComesNext() {
        Check.says("slice 0 comes next");
        TenantHost host = new TenantHost(3);
        Check.due("run(0)", host.run(0), 0);
        Code.launched(host, 0, 1, 9, "JUMP 0");
        host.run(1);
        Check.due("slice 0 is tenant 0's", host.steps(0), 3);
    }

    private static void nobodyIsLaunched() {
        Check.says("0 IDLE (not launched)");
        TenantHost host = new TenantHost(3);
        for (int t = 0; t < 4; t++) {
            Check.due("state", host.state(t), 0);
            Check.due("steps", host.steps(t), 0);
            Check.due("used", host.used(t), 0);
            Check.due("live", host.live(t), 0);
            Check.due("collections", host.collections(t), 0);
            Check.due("ended", host.ended(t), -1);
            Check.due("messages", host.messages(t), 0);
            Check.due("output count", host.output(t, -1), 0);
            Check.due("output", host.output(t, 0), 0);
            Check.due("local 0", host.local(t, 0), 0);
            Check.due("local 1", host.local(t, 1), 0);
            Check.due("look", host.look(t, 0, 0), 0);
        }
    }

    private static int stepsInOneSlice(int length) {
        TenantHost host = new TenantHost(length);
        Code.launched(host, 0, 1, 3000, "JUMP 0");
        host.run(1);
        return host.steps(0);
    }

    private static void lengthIsAtLeastOne() {
        Check.says("LENGTH is length, but at least 1");
        int[] small = {Check.MIN, -8, -1, 0, 1};
        for (int length : small) {
            Check.due("steps in a slice of length " + length, stepsInOneSlice(length), 1);
        }
    }

    private static void lengthIsAtMostEight() {
        Check.says("LENGTH is length, but at most 8");
        int[] large = {8, 9, 16, 1000, Check.MAX};
        for (int length : large) {
            Check.due("steps in a slice of length " + length, stepsInOneSlice(length), 8);
        }
    }

    private static void lengthBetween() {
        Check.says("LENGTH is length");
        for (int length = 2; length < 8; length++) {
            Check.due("steps in a slice of length " + length, stepsInOneSlice(length), length);
        }
    }

    private static void objectsAreApart() {
        Check.says("A new object: no programs' instructions, nothing reserved, permitted, shared or fed");
        TenantHost first = new TenantHost(8);
        first.share(1, -1, -1);
        first.permit(0, 0, 7);
        first.feed(0, 5);
        Code.launched(first, 0, 24, 50, "NIL, SEND 0, OUT, IN, OUT, JUMP 5");
        first.run(3);
        TenantHost second = new TenantHost(8);
        Check.due("run(0)", second.run(0), 0);
        Check.due("first shared cell", second.share(1, -1, -1), 0);
        Code.launched(second, 0, 24, 50, "IN, OUT, NIL, SEND 0, OUT, HALT");
        second.run(1);
        Check.due("nothing fed", second.output(0, 0), 0);
        Check.due("nothing permitted", second.state(0), 10);
    }
}
