/** Promises 6 (share), 7 (reserve), 8 (permit), 9 (launch) and 10 (feed). */
public final class SetupTest {
    private static final int[] NO_TENANTS = {-1, 4, Integer.MIN_VALUE, Integer.MAX_VALUE};

    public static void main(String[] args) {
        shareNumbersItsCells();
        shareRefuses();
        sharedCellsCanBeLookedAt();
        reserveTakesItsRange();
        reserveIsOnceAndAtMost48();
        permitStandsInsteadOfWhatWas();
        permitRefuses();
        launchIsOnce();
        launchRefuses();
        feedKeepsTheOrder();
        feedHoldsEight();
        feedInAnyState();
        Check.done();
    }

    private static void shareNumbersItsCells() {
        TenantHost host = new TenantHost(8);
        for (int i = 0; i < 8; i++) {
            Check.due("share", host.share(i * 10, i - 1, -1), i);
        }
        Check.due("a ninth shared cell", host.share(1, -1, -1), -1);
        Code.launched(host, 0, 1, 50, "SHARED 7, STORE 2, NIL, STORE 3, JUMP 4");
        host.run(1);
        for (int n = 0; n < 8; n++) {
            Check.due("num on the way down", host.look(0, 0, n), 70 - 10 * n);
        }
        Check.due("below the lowest", host.look(0, 0, 8), 0);
    }

    private static void shareRefuses() {
        TenantHost host = new TenantHost(8);
        int[] none = {0, 1, 7, 8, -2, Integer.MIN_VALUE, Integer.MAX_VALUE};
        for (int number : none) {
            Check.due("share with left " + number, host.share(5, number, -1), -1);
            Check.due("share with right " + number, host.share(5, -1, number), -1);
        }
        Check.due("what was refused is not there", host.share(5, -1, -1), 0);
        Check.due("a cell is not its own left", host.share(5, 1, 0), -1);
        Check.due("share of any num", host.share(Integer.MIN_VALUE, 0, 0), 1);
    }

    private static void sharedCellsCanBeLookedAt() {
        TenantHost host = new TenantHost(8);
        host.share(11, -1, -1);
        host.share(22, -1, 0);
        Code.sealed(host, 0, "SHARED 1, STORE 2, SHARED 2, NIL, SAME, OUT, RECEIVE, HALT");
        for (int t = 0; t < 4; t++) {
            host.reserve(t, 1, 20);
            host.launch(t, 0);
        }
        host.run(4);
        for (int t = 0; t < 4; t++) {
            Check.due("num", host.look(t, 0, 0), 22);
            Check.due("right", host.look(t, 1, 1), 11);
            Check.due("left", host.look(t, 0, 1), 0);
            Check.due("no shared cell 2", host.output(t, 0), 1);
            Check.due("shared cells are not used", host.used(t), 0);
            Check.due("shared cells are not counted as live", host.live(t), 0);
        }
    }

    private static void reserveTakesItsRange() {
        int[][] refused = {
            {0, 0, 1}, {0, -1, 1}, {0, 25, 1}, {0, 1, 0}, {0, 1, -1}, {0, 1, 3001}, {-1, 1, 1}, {4, 1, 1},
            {0, Integer.MIN_VALUE, 1}, {0, Integer.MAX_VALUE, 1}, {0, 1, Integer.MIN_VALUE},
            {0, 1, Integer.MAX_VALUE}, {Integer.MIN_VALUE, 1, 1}, {Integer.MAX_VALUE, 1, 1}};
        TenantHost host = new TenantHost(8);
        for (int[] call : refused) {
            Check.no("reserve(" + call[0] + ", " + call[1] + ", " + call[2] + ")",
                host.reserve(call[0], call[1], call[2]));
        }
        Check.yes("the fewest", host.reserve(0, 1, 1));
        Check.yes("the most", host.reserve(1, 24, 3000));
    }

    private static void reserveIsOnceAndAtMost48() {
        TenantHost host = new TenantHost(8);
        Check.yes("reserve", host.reserve(0, 24, 5));
        Check.no("reserve again", host.reserve(0, 1, 10));
        Check.yes("reserve", host.reserve(3, 23, 5));
        Check.no("49 cells", host.reserve(1, 2, 5));
        Check.yes("48 cells", host.reserve(1, 1, 5));
        Check.no("49 cells", host.reserve(2, 1, 5));
        Code.sealed(host, 0, "PUSH 1, NEW, STORE 2, JUMP 0");
        host.launch(0, 0);
        host.run(8);
        Check.due("steps are those of the first time", host.steps(0), 5);
        Check.due("spent", host.state(0), 5);
        Check.no("one that ended is reserved still", host.reserve(0, 1, 1));
        Check.no("its cells are reserved still", host.reserve(2, 1, 1));
    }

    private static void permitStandsInsteadOfWhatWas() {
        String[] attempts = {"NIL, SEND 1, HALT", "PUSH 9, START 1, HALT", "STOP 1, HALT"};
        for (int what = 0; what < 8; what++) {
            for (int k = 0; k < 3; k++) {
                TenantHost host = new TenantHost(8);
                Check.yes("permit", host.permit(0, 1, 7 - what));
                Check.yes("permit", host.permit(0, 1, what));
                host.permit(1, 0, 7);
                host.permit(0, 2, 7);
                host.permit(2, 1, 7);
                Code.launched(host, 0, 1, 10, attempts[k]);
                host.run(1);
                boolean may = (what >> k & 1) == 1;
                Check.due(attempts[k] + " with permit " + what, host.state(0), may ? 3 : 10);
            }
        }
        TenantHost later = new TenantHost(8);
        later.permit(0, 1, 1);
        Code.launched(later, 0, 1, 100, "NIL, SEND 1, OUT, JUMP 0");
        later.run(1);
        Check.due("permitted", later.state(0), 1);
        later.permit(0, 1, 6);
        later.run(4);
        Check.due("no longer permitted", later.state(0), 10);
    }

    private static void permitRefuses() {
        TenantHost host = new TenantHost(8);
        host.permit(0, 0, 5);
        for (int t : NO_TENANTS) {
            Check.no("permit of tenant " + t, host.permit(t, 0, 1));
            Check.no("permit to tenant " + t, host.permit(0, t, 1));
        }
        int[] noPermits = {-1, 8, Integer.MIN_VALUE, Integer.MAX_VALUE};
        for (int what : noPermits) {
            Check.no("permit of " + what, host.permit(0, 0, what));
        }
        Code.launched(host, 0, 1, 10, "NIL, SEND 0, OUT, STOP 0, OUT, HALT");
        host.run(1);
        Check.due("what was permitted stands", host.state(0), 4);
        Check.due("it sent", host.output(0, 0), 1);
    }

    private static void launchIsOnce() {
        TenantHost host = new TenantHost(2);
        Code.sealed(host, 0, "PUSH 1, POP, HALT");
        Code.sealed(host, 1, "JUMP 0");
        host.reserve(2, 1, 10);
        Check.due("reserved, but not launched", host.state(2), 0);
        Check.yes("launch", host.launch(2, 0));
        Check.due("running", host.state(2), 1);
        Check.no("launch when running", host.launch(2, 1));
        host.run(8);
        Check.due("done", host.state(2), 3);
        Check.due("steps", host.steps(2), 3);
        Check.no("launch when ended", host.launch(2, 1));
        Check.due("done still", host.state(2), 3);
        Check.due("ended still", host.ended(2), 6);
    }

    private static void launchRefuses() {
        TenantHost host = new TenantHost(2);
        Code.sealed(host, 0, "RECEIVE, HALT");
        Code.write(host, 1, "HALT");
        Check.no("launch when nothing is reserved", host.launch(0, 0));
        host.reserve(0, 1, 10);
        Check.no("launch with an open program", host.launch(0, 1));
        Check.no("launch with an empty program", host.launch(0, 2));
        for (int i : NO_TENANTS) {
            Check.no("launch of tenant " + i, host.launch(i, 0));
            Check.no("launch with program " + i, host.launch(0, i));
        }
        Check.due("idle", host.state(0), 0);
        Check.yes("launch", host.launch(0, 0));
        host.run(1);
        Check.due("waiting", host.state(0), 2);
        Check.no("launch when waiting", host.launch(0, 0));
        host.reserve(1, 1, 10);
        Check.yes("two tenants may have one program", host.launch(1, 0));
    }

    private static void feedKeepsTheOrder() {
        TenantHost host = new TenantHost(8);
        Check.yes("feed", host.feed(0, 5));
        Check.yes("feed", host.feed(0, Integer.MIN_VALUE));
        Check.yes("feed of another", host.feed(1, 77));
        Code.launched(host, 0, 1, 100, "IN, OUT, JUMP 0");
        host.run(1);
        Check.due("first", host.output(0, 0), 5);
        Check.due("second", host.output(0, 1), Integer.MIN_VALUE);
        Check.due("no third", host.output(0, 2), 0);
        Check.due("outputs", host.output(0, -1), 3);
        host.feed(0, 6);
        host.run(4);
        Check.due("fed later", host.output(0, 3), 6);
    }

    private static void feedHoldsEight() {
        TenantHost host = new TenantHost(4);
        for (int i = 0; i < 8; i++) {
            Check.yes("feed", host.feed(3, 100 + i));
        }
        Check.no("a ninth", host.feed(3, 999));
        for (int t : NO_TENANTS) {
            Check.no("feed of tenant " + t, host.feed(t, 1));
        }
        Code.launched(host, 3, 1, 100, "IN, OUT, JUMP 0");
        host.run(4);
        Check.yes("two were taken", host.feed(3, 108));
        Check.yes("two were taken", host.feed(3, 109));
        Check.no("and two put in", host.feed(3, 110));
        host.run(40);
        for (int i = 0; i < 10; i++) {
            Check.due("input " + i, host.output(3, i), 100 + i);
        }
    }

    private static void feedInAnyState() {
        TenantHost host = new TenantHost(8);
        Check.yes("feed when idle and not reserved", host.feed(0, 1));
        Code.launched(host, 0, 1, 100, "RECEIVE, HALT");
        Check.yes("feed when running", host.feed(0, 1));
        host.run(1);
        Check.yes("feed when waiting", host.feed(0, 1));
        Code.launched(host, 1, 1, 100, "HALT");
        host.run(4);
        for (int i = 0; i < 8; i++) {
            Check.yes("feed when ended", host.feed(1, i));
        }
        Check.no("a ninth when ended", host.feed(1, 9));
    }
}
