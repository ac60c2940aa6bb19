/** Promises 14 (used), 15 (live) and 16 (collections), with HEAPS. */
public final class HeapTest {
    private static final String WAIT = ", RECEIVE, HALT";

    public static void main(String[] args) {
        usedCountsWhatWasMadeAndNotCollected();
        liveDoesNotCollect();
        roomUpToTheReserved();
        noRoomBeyondTheReserved();
        memoryWhenAllIsLive();
        collectionCountsWhenItEndsTheTenant();
        collectsOnlyWhenThereIsNoRoom();
        heapOfOneCell();
        heapOfTwentyFourCells();
        localsAreRoots();
        stackIsARoot();
        messagesAreRoots();
        everyInstructionPutsRoots();
        numbersAreNoRoots();
        cellsAreReachedByLeftAndRight();
        ringsAreCollected();
        whatIsOverwrittenIsGarbage();
        newCellHasNothingOfTheOldOne();
        sharedCellsAreNotCounted();
        heapsAreApart();
        nothingIsUsedWhenItHasEnded();
        collectionsStayWhenItHasEnded();
        usedOfNoTenant();
        liveOfNoTenant();
        collectionsOfNoTenant();
        Check.done();
    }

    private static TenantHost waits(int cells, String text) {
        TenantHost host = new TenantHost(8);
        host.share(5, -1, -1);
        host.permit(0, 0, 1);
        Code.launched(host, 0, cells, 3000, text);
        host.run(200);
        return host;
    }

    private static void counts(String what, TenantHost host, int used, int live, int collections) {
        Check.due("used: " + what, host.used(0), used);
        Check.due("live: " + what, host.live(0), live);
        Check.due("collections: " + what, host.collections(0), collections);
    }

    private static void usedCountsWhatWasMadeAndNotCollected() {
        Check.says("Its cells USED are those that were made in its heap and not collected");
        counts("nothing made", waits(3, "PUSH 1, POP" + WAIT), 0, 0, 0);
        counts("one made", waits(3, "PUSH 1, NEW, STORE 2" + WAIT), 1, 1, 0);
        counts("made and dropped", waits(3, "PUSH 1, NEW, POP, PUSH 2, NEW, POP" + WAIT), 2, 0, 0);
    }

    private static void liveDoesNotCollect() {
        Check.says("The live cells of tenant t");
        TenantHost host = waits(3, "PUSH 1, NEW, POP, PUSH 2, NEW, STORE 2" + WAIT);
        counts("asked once", host, 2, 1, 0);
        counts("asked again", host, 2, 1, 0);
    }

    private static void roomUpToTheReserved() {
        Check.says("There is ROOM for n cells in a heap when used + n is at most the cells reserved");
        counts("exactly full", waits(2, "PUSH 1, NEW, POP, PUSH 2, NEW, POP" + WAIT), 2, 0, 0);
        counts("one less than full", waits(3, "PUSH 1, NEW, POP, PUSH 2, NEW, POP" + WAIT), 2, 0, 0);
    }

    private static void noRoomBeyondTheReserved() {
        Check.says("if it is not, the tenant collects, and then it is looked once more");
        String three = "PUSH 1, NEW, POP, PUSH 2, NEW, POP, PUSH 3, NEW, STORE 3";
        counts("one too many", waits(2, three + WAIT), 1, 1, 1);
        counts("one live cell stays", waits(2, "PUSH 9, NEW, STORE 2, " + three + WAIT), 2, 2, 2);
    }

    private static void memoryWhenAllIsLive() {
        Check.says("MEMORY when there is no room");
        String three = "PUSH 1, NEW, STORE 2, PUSH 2, NEW, STORE 3, PUSH 3, NEW";
        counts("three live cells in three", waits(3, three + WAIT), 3, 3, 0);
        TenantHost host = waits(3, three + ", PUSH 4, NEW" + WAIT);
        Check.due("state", host.state(0), 9);
        Check.due("steps", host.steps(0), 10);
        Check.due("a cell more and there is room", waits(4, three + ", PUSH 4, NEW" + WAIT).state(0), 2);
    }

    private static void collectionCountsWhenItEndsTheTenant() {
        Check.says("it is counted, also when the instruction that it was done for then ends the tenant");
        TenantHost host = waits(1, "PUSH 1, NEW, STORE 2, PUSH 2, NEW" + WAIT);
        Check.due("memory", host.state(0), 9);
        counts("the last collection", host, 0, 0, 1);
    }

    private static void collectsOnlyWhenThereIsNoRoom() {
        Check.says("How often tenant t has collected");
        TenantHost host = new TenantHost(4);
        Code.launched(host, 0, 5, 3000, "PUSH 1, NEW, POP, JUMP 0");
        for (int made = 1; made <= 40; made++) {
            host.run(4);
            Check.due("collections after " + made, host.collections(0), (made - 1) / 5);
            Check.due("used after " + made, host.used(0), (made - 1) % 5 + 1);
            Check.due("live after " + made, host.live(0), 0);
        }
    }

    private static void heapOfOneCell() {
        Check.says("cells is .. 1 .. 24");
        counts("one cell again and again",
            waits(1, "PUSH 1, NEW, POP, PUSH 2, NEW, POP, PUSH 3, NEW, STORE 2" + WAIT), 1, 1, 2);
    }

    private static void heapOfTwentyFourCells() {
        Check.says("cells is .. 1 .. 24");
        for (int part = 1; part <= 2; part++) {
            fillsTheHeap("PUSH 1, NEW, DUP, STORE 2, STORE 3, JUMP 6, LOAD 2, PUSH 5, NEW, DUP, STORE 2, SET " + part
                + ", JUMP 6");
            fillsTheHeap("PUSH 1, NEW, DUP, LOAD 2, SET " + part + ", STORE 2, JUMP 0");
        }
    }

    /** Chains that grow at their lower and at their upper end: the live ones must be found in either order. */
    private static void fillsTheHeap(String text) {
        TenantHost host = new TenantHost(8);
        Code.launched(host, 0, 24, 3000, text);
        for (int i = 0; i < 200 && host.used(0) < 24; i++) {
            host.run(1);
        }
        counts(text, host, 24, 24, 0);
        host.run(200);
        Check.due("memory by " + text, host.state(0), 9);
        Check.due("collections by " + text, host.collections(0), 1);
    }

    // One cell that is kept in some way, and two that are dropped: the last NEW has to collect.
    private static final String TWO_DROPPED = ", PUSH 7, NEW, POP, PUSH 8, NEW, POP" + WAIT;

    private static void localsAreRoots() {
        Check.says("The ROOTS of a tenant are the references in its locals");
        counts("local 2", waits(2, "PUSH 1, NEW, STORE 2" + TWO_DROPPED), 2, 1, 1);
        counts("local 3", waits(2, "PUSH 1, NEW, STORE 3" + TWO_DROPPED), 2, 1, 1);
        counts("both", waits(3, "PUSH 1, NEW, STORE 2, PUSH 2, NEW, STORE 3" + TWO_DROPPED), 3, 2, 1);
    }

    private static void stackIsARoot() {
        Check.says("on its stack");
        counts("stack", waits(2, "PUSH 1, NEW" + TWO_DROPPED), 2, 1, 1);
        counts("low on the stack", waits(2, "PUSH 1, NEW, PUSH 1, PUSH 2, PUSH 3" + TWO_DROPPED), 2, 1, 1);
        counts("five on the stack",
            waits(5, "PUSH 1, NEW, PUSH 2, NEW, PUSH 3, NEW, PUSH 4, NEW, PUSH 5, NEW" + WAIT), 5, 5, 0);
        TenantHost six = new TenantHost(8);
        Code.launched(six, 0, 6, 3000, "IN, NEW, IN, NEW, IN, NEW, IN, NEW, IN, NEW, IN, NEW, JUMP 12");
        six.run(40);
        counts("six on the stack", six, 6, 6, 0);
    }

    private static void messagesAreRoots() {
        Check.says("and in its messages");
        TenantHost sent = waits(3, "PUSH 1, NEW, SEND 0, POP, PUSH 7, NEW, POP, PUSH 8, NEW, POP, RECEIVE, STORE 2, "
            + "RECEIVE, HALT");
        counts("message", sent, 2, 1, 1);
        Check.due("what was received", sent.look(0, 0, 0), 1);
        TenantHost four = new TenantHost(8);
        four.permit(0, 0, 1);
        Code.launched(four, 0, 10, 3000, "IN, NEW, SEND 0, POP, IN, NEW, SEND 0, POP, IN, NEW, SEND 0, POP, "
            + "IN, NEW, SEND 0, POP, JUMP 16");
        four.run(40);
        Check.due("messages", four.messages(0), 4);
        counts("four messages", four, 8, 4, 0);
    }

    private static void everyInstructionPutsRoots() {
        Check.says("the references .. on its stack");
        // The cell is held by the stack alone when a NEW has to collect; then it must still be the one it was.
        String collect = ", PUSH 7, NEW, POP, PUSH 8, NEW, POP, STORE 2" + WAIT;
        String[] ways = {
            "PUSH 1, NEW", "PUSH 1, NEW, STORE 2, LOAD 2, NIL, STORE 2", "PUSH 1, NEW, STORE 3, LOAD 3, NIL, STORE 3",
            "PUSH 1, NEW, DUP, STORE 2, NIL, STORE 2"};
        for (String way : ways) {
            keepsTheCell(way, waits(2, way + collect), 2);
        }
        for (int part = 1; part <= 2; part++) {
            String way = "PUSH 2, NEW, DUP, PUSH 1, NEW, SET " + part + ", GET " + part;
            keepsTheCell(way, waits(3, way + ", PUSH 6, NEW, POP" + collect), 3);
        }
        keepsTheCell("RECEIVE", waits(3, "PUSH 1, NEW, SEND 0, POP, RECEIVE" + collect), 2);
        counts("two on the stack", waits(3, "PUSH 1, NEW, PUSH 2, NEW" + collect), 3, 2, 1);
    }

    private static void keepsTheCell(String way, TenantHost host, int used) {
        counts(way, host, used, 1, 1);
        Check.due("num after " + way, host.look(0, 0, 0), 1);
    }

    private static void numbersAreNoRoots() {
        Check.says("The ROOTS of a tenant are the references");
        // The stack has held references where it then holds the number.
        for (int number = 0; number < 64; number++) {
            TenantHost host = waits(2, "NIL, NIL, NIL, POP, POP, POP, PUSH 1, NEW, POP, PUSH 2, NEW, POP, PUSH " + number
                + ", DUP, DUP, STORE 0, PUSH " + number + ", STORE 1" + WAIT);
            counts("the number " + number, host, 2, 0, 0);
            counts("the num " + number + " taken from its cell",
                waits(2, "PUSH 1, NEW, POP, PUSH " + number + ", NEW, GET 0" + WAIT), 2, 0, 0);
        }
        counts("a num in a cell", waits(3, "PUSH 9, NEW, STORE 2, PUSH 10, NEW, POP, PUSH 11, NEW, POP" + WAIT), 3, 1, 0);
    }

    private static void cellsAreReachedByLeftAndRight() {
        Check.says("a cell is LIVE when a root is it, or the left or right of a live cell is it");
        for (int part = 1; part <= 2; part++) {
            // Each turn puts the chain that is in local 2 below a new cell.
            TenantHost chain = waits(3, "PUSH 1, NEW, DUP, LOAD 2, SET " + part + ", STORE 2, IN, ZERO 0, HALT");
            Check.due("a chain fills the heap", chain.state(0), 9);
            Check.due("collections", chain.collections(0), 1);
            Check.due("steps", chain.steps(0), 3 * 8 + 2);
        }
        counts("left and right the same", waits(3,
            "PUSH 1, NEW, STORE 2, LOAD 2, PUSH 2, NEW, SET 1, LOAD 2, LOAD 2, GET 1, SET 2" + WAIT), 2, 2, 0);
        counts("its own left and right", waits(3,
            "PUSH 1, NEW, STORE 2, LOAD 2, LOAD 2, SET 1, LOAD 2, LOAD 2, SET 2" + WAIT), 1, 1, 0);
    }

    private static void ringsAreCollected() {
        Check.says("To COLLECT: of the tenant's cells only the live ones stay");
        String ring = "PUSH 1, NEW, STORE 2, PUSH 2, NEW, STORE 3, LOAD 2, LOAD 3, SET 1, LOAD 3, LOAD 2, SET 2";
        counts("a ring", waits(3, ring + WAIT), 2, 2, 0);
        counts("a ring held at one cell", waits(3, ring + ", NIL, STORE 2" + WAIT), 2, 2, 0);
        counts("a ring that nothing holds",
            waits(2, ring + ", NIL, STORE 2, NIL, STORE 3, PUSH 3, NEW" + WAIT), 1, 1, 1);
    }

    private static void whatIsOverwrittenIsGarbage() {
        Check.says("To COLLECT: of the tenant's cells only the live ones stay");
        counts("a local", waits(2, "PUSH 1, NEW, STORE 2, PUSH 2, NEW, STORE 2" + WAIT), 2, 1, 0);
        counts("a part", waits(2, "PUSH 1, NEW, DUP, PUSH 2, NEW, SET 1, DUP, NIL, SET 1" + WAIT), 2, 1, 0);
    }

    private static void newCellHasNothingOfTheOldOne() {
        Check.says("NEW: .. a new cell of the tenant with this NUM, its LEFT and RIGHT null");
        TenantHost host = waits(1, "PUSH 1, NEW, STORE 2, LOAD 2, LOAD 2, SET 1, LOAD 2, LOAD 2, SET 2, NIL, STORE 2, "
            + "PUSH 6, NEW, STORE 2" + WAIT);
        counts("the place is used again", host, 1, 1, 1);
        Check.due("num", host.look(0, 0, 0), 6);
        Check.due("left", host.look(0, 0, 1), 0);
        Check.due("right", host.look(0, 1, 1), 0);
    }

    private static void sharedCellsAreNotCounted() {
        Check.says("(shared ones not counted)");
        counts("in a local", waits(1, "SHARED 0, STORE 2" + WAIT), 0, 0, 0);
        counts("on the stack", waits(1, "SHARED 0" + WAIT), 0, 0, 0);
        counts("below a cell", waits(2, "PUSH 1, NEW, DUP, SHARED 0, SET 1, STORE 2" + WAIT), 1, 1, 0);
        counts("beside a full heap", waits(1, "PUSH 1, NEW, STORE 2, SHARED 0, STORE 3" + WAIT), 1, 1, 0);
        TenantHost sent = waits(1, "SHARED 0, SEND 0, POP, IN, ZERO 3, HALT");
        counts("in a message", sent, 0, 0, 0);
        Check.due("messages", sent.messages(0), 1);
    }

    private static void heapsAreApart() {
        Check.says("each in a heap .. reserved for it");
        TenantHost host = new TenantHost(8);
        Code.launched(host, 0, 1, 100, "PUSH 1, NEW, STORE 2, LOAD 2, LOAD 2, SET 1" + WAIT);
        Code.launched(host, 1, 3, 100, "PUSH 2, NEW, STORE 2, PUSH 3, NEW, POP" + WAIT);
        Code.launched(host, 2, 2, 100, "PUSH 4, NEW, POP, PUSH 5, NEW, POP, JUMP 0");
        host.run(24);
        counts("tenant 0", host, 1, 1, 0);
        Check.due("its cell", host.look(0, 0, 20), 1);
        Check.due("used of tenant 1", host.used(1), 2);
        Check.due("live of tenant 1", host.live(1), 1);
        Check.due("collections of tenant 1", host.collections(1), 0);
        Check.due("cell of tenant 1", host.look(1, 0, 0), 2);
        Check.yes("tenant 2 collects", host.collections(2) > 3);
    }

    private static void nothingIsUsedWhenItHasEnded() {
        Check.says("When it ENDS .. its cells .. are gone: nothing is used");
        counts("before", waits(3, "PUSH 1, NEW, STORE 2, PUSH 1, NEW" + WAIT), 2, 2, 0);
        counts("after", waits(3, "PUSH 1, NEW, STORE 2, PUSH 1, NEW, HALT"), 0, 0, 0);
    }

    private static void collectionsStayWhenItHasEnded() {
        Check.says("Its outputs, counts and steps stay");
        TenantHost host = waits(1, "PUSH 1, NEW, POP, PUSH 2, NEW, POP, PUSH 3, NEW, HALT");
        Check.due("state", host.state(0), 3);
        counts("two collections", host, 0, 0, 2);
    }

    private static void usedOfNoTenant() {
        Check.says("The cells used by tenant t; -1 when there is no tenant t");
        for (int t : Check.NOT_0_TO_3) {
            Check.due("used(" + t + ")", waits(2, "PUSH 1, NEW" + WAIT).used(t), -1);
        }
    }

    private static void liveOfNoTenant() {
        Check.says("The live cells of tenant t; -1 when there is no tenant t");
        for (int t : Check.NOT_0_TO_3) {
            Check.due("live(" + t + ")", waits(2, "PUSH 1, NEW" + WAIT).live(t), -1);
        }
    }

    private static void collectionsOfNoTenant() {
        Check.says("How often tenant t has collected; -1 when there is no tenant t");
        for (int t : Check.NOT_0_TO_3) {
            Check.due("collections(" + t + ")", waits(2, "PUSH 1, NEW" + WAIT).collections(t), -1);
        }
    }
}
