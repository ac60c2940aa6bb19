/** Promises 14 (used), 15 (live) and 16 (collections). */
public final class HeapTest {
    private static final String WAIT = ", RECEIVE, HALT";

    public static void main(String[] args) {
        usedCountsWhatWasMade();
        everyKindOfRootKeepsCells();
        everyInstructionPutsRoots();
        cellsAreReachedByLeftAndRight();
        collectsOnlyWhenThereIsNoRoom();
        ringsAreCollected();
        whatIsOverwrittenIsGarbage();
        numbersAreNoRoots();
        heapsAreApart();
        fullHeapOfTwentyFour();
        Check.done();
    }

    private static TenantHost waits(int cells, String text) {
        TenantHost host = new TenantHost(8);
        host.share(5, -1, -1);
        host.permit(0, 0, 1);
        Code.launched(host, 0, cells, 3000, text);
        host.run(200);
        return host;
    }

    private static void counts(String what, TenantHost host, int used, int live, int collections) {
        Check.due("used: " + what, host.used(0), used);
        Check.due("live: " + what, host.live(0), live);
        Check.due("collections: " + what, host.collections(0), collections);
    }

    private static void usedCountsWhatWasMade() {
        counts("nothing made", waits(3, "PUSH 1, POP" + WAIT), 0, 0, 0);
        counts("made and dropped", waits(3, "PUSH 1, NEW, POP, PUSH 2, NEW, POP" + WAIT), 2, 0, 0);
        counts("live does not collect", waits(3, "PUSH 1, NEW, POP, PUSH 2, NEW, STORE 2" + WAIT), 2, 1, 0);
        counts("exactly full", waits(2, "PUSH 1, NEW, POP, PUSH 2, NEW, POP" + WAIT), 2, 0, 0);
        counts("one too many", waits(2, "PUSH 1, NEW, POP, PUSH 2, NEW, POP, PUSH 3, NEW, STORE 3" + WAIT), 1, 1, 1);
    }

    private static void everyKindOfRootKeepsCells() {
        // One cell that is kept in some way, and two that are dropped: the last NEW has to collect.
        String more = ", PUSH 7, NEW, POP, PUSH 8, NEW, POP" + WAIT;
        counts("local 2", waits(2, "PUSH 1, NEW, STORE 2" + more), 2, 1, 1);
        counts("local 3", waits(2, "PUSH 1, NEW, STORE 3" + more), 2, 1, 1);
        counts("stack", waits(2, "PUSH 1, NEW" + more), 2, 1, 1);
        counts("low on the stack", waits(2, "PUSH 1, NEW, PUSH 1, PUSH 2, PUSH 3" + more), 2, 1, 1);
        TenantHost sent = waits(3, "PUSH 1, NEW, SEND 0, POP, PUSH 7, NEW, POP, PUSH 8, NEW, POP, RECEIVE, STORE 2, "
            + "RECEIVE, HALT");
        counts("message", sent, 2, 1, 1);
        Check.due("what was received", sent.look(0, 0, 0), 1);
        counts("all roots", waits(3, "PUSH 1, NEW, STORE 2, PUSH 2, NEW, STORE 3, PUSH 3, NEW" + WAIT), 3, 3, 0);
        Check.due("no room beside three live cells",
            waits(3, "PUSH 1, NEW, STORE 2, PUSH 2, NEW, STORE 3, PUSH 3, NEW, PUSH 4, NEW" + WAIT).state(0), 9);
    }

    private static void everyInstructionPutsRoots() {
        // The cell is held by the stack alone when a NEW has to collect; then it must still be the one it was.
        String collect = ", PUSH 7, NEW, POP, PUSH 8, NEW, POP, STORE 2" + WAIT;
        String[] ways = {
            "PUSH 1, NEW", "PUSH 1, NEW, STORE 2, LOAD 2, NIL, STORE 2", "PUSH 1, NEW, STORE 3, LOAD 3, NIL, STORE 3",
            "PUSH 1, NEW, DUP, STORE 2, NIL, STORE 2"};
        for (String way : ways) {
            keepsTheCell(way, waits(2, way + collect), 2);
        }
        for (int part = 1; part <= 2; part++) {
            String way = "PUSH 2, NEW, DUP, PUSH 1, NEW, SET " + part + ", GET " + part;
            keepsTheCell(way, waits(3, way + ", PUSH 6, NEW, POP" + collect), 3);
        }
        keepsTheCell("RECEIVE", waits(3, "PUSH 1, NEW, SEND 0, POP, RECEIVE" + collect), 2);
        counts("two on the stack", waits(3, "PUSH 1, NEW, PUSH 2, NEW" + collect), 3, 2, 1);
        counts("five on the stack",
            waits(5, "PUSH 1, NEW, PUSH 2, NEW, PUSH 3, NEW, PUSH 4, NEW, PUSH 5, NEW" + WAIT), 5, 5, 0);
    }

    private static void keepsTheCell(String way, TenantHost host, int used) {
        counts(way, host, used, 1, 1);
        Check.due("num after " + way, host.look(0, 0, 0), 1);
    }

    private static void cellsAreReachedByLeftAndRight() {
        for (int part = 1; part <= 2; part++) {
            // Each turn puts the chain that is in local 2 below a new cell.
            TenantHost chain = waits(3, "PUSH 1, NEW, DUP, LOAD 2, SET " + part + ", STORE 2, IN, ZERO 0, HALT");
            Check.due("a chain fills the heap", chain.state(0), 9);
            Check.due("collections", chain.collections(0), 1);
            Check.due("steps", chain.steps(0), 3 * 8 + 2);
        }
        counts("a shared cell below", waits(2, "PUSH 1, NEW, DUP, SHARED 0, SET 1, STORE 2" + WAIT), 1, 1, 0);
        counts("left and right the same", waits(3,
            "PUSH 1, NEW, STORE 2, LOAD 2, PUSH 2, NEW, SET 1, LOAD 2, LOAD 2, GET 1, SET 2" + WAIT), 2, 2, 0);
    }

    private static void collectsOnlyWhenThereIsNoRoom() {
        TenantHost host = new TenantHost(4);
        Code.launched(host, 0, 5, 3000, "PUSH 1, NEW, POP, JUMP 0");
        for (int made = 1; made <= 40; made++) {
            host.run(4);
            Check.due("collections after " + made, host.collections(0), (made - 1) / 5);
            Check.due("used after " + made, host.used(0), (made - 1) % 5 + 1);
            Check.due("live after " + made, host.live(0), 0);
        }
    }

    private static void ringsAreCollected() {
        String ring = "PUSH 1, NEW, STORE 2, PUSH 2, NEW, STORE 3, LOAD 2, LOAD 3, SET 1, LOAD 3, LOAD 2, SET 2";
        counts("a ring", waits(3, ring + WAIT), 2, 2, 0);
        counts("a ring held at one cell", waits(3, ring + ", NIL, STORE 2" + WAIT), 2, 2, 0);
        counts("a ring that nothing holds", waits(2, ring + ", NIL, STORE 2, NIL, STORE 3, PUSH 3, NEW" + WAIT), 1, 1, 1);
    }

    private static void whatIsOverwrittenIsGarbage() {
        counts("a local", waits(2, "PUSH 1, NEW, STORE 2, PUSH 2, NEW, STORE 2" + WAIT), 2, 1, 0);
        counts("a part", waits(2, "PUSH 1, NEW, DUP, PUSH 2, NEW, SET 1, DUP, NIL, SET 1" + WAIT), 2, 1, 0);
        // A new cell in the place of an old one must not have the old one's parts.
        TenantHost host = waits(1, "PUSH 1, NEW, STORE 2, LOAD 2, LOAD 2, SET 1, LOAD 2, LOAD 2, SET 2, NIL, STORE 2, "
            + "PUSH 6, NEW, STORE 2" + WAIT);
        counts("the place is used again", host, 1, 1, 1);
        Check.due("num", host.look(0, 0, 0), 6);
        Check.due("left", host.look(0, 0, 1), 0);
        Check.due("right", host.look(0, 1, 1), 0);
    }

    private static void numbersAreNoRoots() {
        // The stack has held references where it then holds the number.
        for (int number = 0; number < 64; number++) {
            TenantHost host = waits(2, "NIL, NIL, NIL, POP, POP, POP, PUSH 1, NEW, POP, PUSH 2, NEW, POP, PUSH " + number
                + ", DUP, DUP, STORE 0, PUSH " + number + ", STORE 1" + WAIT);
            counts("the number " + number, host, 2, 0, 0);
        }
        counts("a num in a cell", waits(3, "PUSH 9, NEW, STORE 2, PUSH 10, NEW, POP, PUSH 11, NEW, POP" + WAIT), 3, 1, 0);
    }

    private static void heapsAreApart() {
        TenantHost host = new TenantHost(8);
        Code.launched(host, 0, 1, 100, "PUSH 1, NEW, STORE 2, LOAD 2, LOAD 2, SET 1" + WAIT);
        Code.launched(host, 1, 3, 100, "PUSH 2, NEW, STORE 2, PUSH 3, NEW, POP" + WAIT);
        Code.launched(host, 2, 2, 100, "PUSH 4, NEW, POP, PUSH 5, NEW, POP, JUMP 0");
        host.run(24);
        counts("tenant 0", host, 1, 1, 0);
        Check.due("its cell", host.look(0, 0, 20), 1);
        Check.due("used of tenant 1", host.used(1), 2);
        Check.due("live of tenant 1", host.live(1), 1);
        Check.due("collections of tenant 1", host.collections(1), 0);
        Check.due("cell of tenant 1", host.look(1, 0, 0), 2);
        Check.yes("tenant 2 collects", host.collections(2) > 3);
    }

    private static void fullHeapOfTwentyFour() {
        for (int part = 1; part <= 2; part++) {
            fillsTheHeap("PUSH 1, NEW, DUP, STORE 2, STORE 3, JUMP 6, LOAD 2, PUSH 5, NEW, DUP, STORE 2, SET " + part
                + ", JUMP 6");
            fillsTheHeap("PUSH 1, NEW, DUP, LOAD 2, SET " + part + ", STORE 2, JUMP 0");
        }
    }

    /** Chains that grow at their lower and at their upper end: the live ones must be found in either order. */
    private static void fillsTheHeap(String text) {
        TenantHost host = new TenantHost(8);
        Code.launched(host, 0, 24, 3000, text);
        for (int i = 0; i < 200 && host.used(0) < 24; i++) {
            host.run(1);
        }
        Check.due("used by " + text, host.used(0), 24);
        Check.due("live by " + text, host.live(0), 24);
        host.run(200);
        Check.due("memory by " + text, host.state(0), 9);
    }
}
