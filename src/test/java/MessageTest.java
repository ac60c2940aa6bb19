/** Promise 18 (messages), with SEND and RECEIVE and the copies that they make. */
public final class MessageTest {
    public static void main(String[] args) {
        messagesComeInOrder();
        fourMessagesAreTheMost();
        noRoomIsLookedForWhenThereAreFour();
        aFifthWhenOneWasTaken();
        idleOnesGetNone();
        endedOnesGetNone();
        waitingOnesGetThem();
        runningOnesGetThem();
        nullIsItsOwnCopy();
        sharedIsItsOwnCopy();
        copiesAreApartFromWhatWasSent();
        eachCellIsCopiedOnce();
        onlyWhatCanBeReachedIsCopied();
        copyOfTwentyFourCells();
        exactRoomInTheReceiversHeap();
        noRoomInTheReceiversHeap();
        liveCellsHoldTheirPlace();
        garbageMakesRoom();
        aCopyLargerThanTheHeap();
        senderMayEndAfterIt();
        sendToItself();
        sendToItselfKeepsWhatIsSent();
        sendToItselfWithoutRoom();
        sendIsDenied();
        messagesAreGoneWhenItEnds();
        messagesOfNoTenant();
        Check.done();
    }

    /** Tenant 1 may send to tenant 2, which runs the text in so many cells. */
    private static TenantHost pair(int cells, String sender, String receiver) {
        TenantHost host = new TenantHost(8);
        host.share(50, -1, -1);
        host.permit(1, 2, 1);
        Code.launched(host, 1, 10, 200, sender);
        Code.launched(host, 2, cells, 200, receiver);
        return host;
    }

    /** The same, but the receiver has had its first slice when the sender is launched. */
    private static TenantHost laterPair(int cells, String sender, String receiver) {
        TenantHost host = new TenantHost(8);
        host.permit(1, 2, 1);
        Code.launched(host, 2, cells, 200, receiver);
        host.run(4);
        Code.launched(host, 1, 10, 200, sender);
        return host;
    }

    private static void messagesComeInOrder() {
        Check.says("the message is put behind its others .. RECEIVE: puts R, the first of the tenant's messages");
        TenantHost host = pair(5, "PUSH 1, NEW, SEND 2, OUT, PUSH 2, NEW, SEND 2, OUT, PUSH 3, NEW, SEND 2, OUT, HALT",
            "IN, ZERO 0, RECEIVE, GET 0, OUT, RECEIVE, GET 0, OUT, RECEIVE, GET 0, OUT, RECEIVE, HALT");
        host.run(12);
        Check.due("messages", host.messages(2), 3);
        Check.due("used", host.used(2), 3);
        Check.due("live", host.live(2), 3);
        host.feed(2, 1);
        host.run(20);
        for (int k = 0; k < 3; k++) {
            Check.due("message " + k, host.output(2, k), k + 1);
            Check.due("sent " + k, host.output(1, k), 1);
        }
        Check.due("messages are taken away", host.messages(2), 0);
        Check.due("waiting", host.state(2), 2);
        Check.due("live", host.live(2), 0);
        Check.due("used", host.used(2), 3);
    }

    private static final String FOUR_NULL =
        "NIL, SEND 2, OUT, NIL, SEND 2, OUT, NIL, SEND 2, OUT, NIL, SEND 2, OUT";

    private static void fourMessagesAreTheMost() {
        Check.says("else 0 when it has 4 messages");
        TenantHost host = pair(6, FOUR_NULL + ", NIL, SEND 2, OUT, PUSH 1, NEW, SEND 2, OUT, RECEIVE, HALT",
            "IN, ZERO 0, HALT");
        host.run(40);
        int[] sent = {1, 1, 1, 1, 0, 0};
        for (int k = 0; k < 6; k++) {
            Check.due("sent " + k, host.output(1, k), sent[k]);
        }
        Check.due("outputs", host.output(1, -1), 6);
        Check.due("messages", host.messages(2), 4);
        Check.due("nothing was made for the sixth", host.used(2), 0);
    }

    private static void noRoomIsLookedForWhenThereAreFour() {
        Check.says("else 0 when it has 4 messages, else 0 when there is no room for the copy in its heap");
        TenantHost host = laterPair(1, FOUR_NULL + ", PUSH 1, NEW, SEND 2, OUT, RECEIVE, HALT",
            "PUSH 9, NEW, POP, JUMP 3");
        host.run(40);
        Check.due("messages", host.messages(2), 4);
        Check.due("the fifth", host.output(1, 4), 0);
        Check.due("nothing was collected", host.collections(2), 0);
        Check.due("used", host.used(2), 1);
    }

    private static void aFifthWhenOneWasTaken() {
        Check.says("RECEIVE: puts R, the first of the tenant's messages, which is taken away");
        TenantHost host = pair(6, FOUR_NULL + ", IN, ZERO 12, NIL, SEND 2, OUT, NIL, SEND 2, OUT, HALT",
            "IN, ZERO 0, RECEIVE, POP, JUMP 0");
        host.run(40);
        Check.due("messages", host.messages(2), 4);
        host.feed(2, 1);
        host.run(8);
        Check.due("one was taken", host.messages(2), 3);
        host.feed(1, 1);
        host.run(8);
        Check.due("a fifth", host.output(1, 4), 1);
        Check.due("but no sixth", host.output(1, 5), 0);
        Check.due("messages", host.messages(2), 4);
    }

    private static void idleOnesGetNone() {
        Check.says("0 when tenant arg is not ALIVE");
        TenantHost host = new TenantHost(8);
        host.permit(1, 2, 1);
        host.permit(1, 3, 1);
        host.reserve(3, 1, 50);
        Code.launched(host, 1, 2, 50, "NIL, SEND 2, OUT, NIL, SEND 3, OUT, IN, NEW, STORE 2, LOAD 2, SEND 2, OUT, "
            + "LOAD 2, LOAD 2, SET 1, LOAD 2, IN, NEW, SET 2, LOAD 2, SEND 3, OUT, HALT");
        host.run(16);
        Check.due("outputs", host.output(1, -1), 4);
        for (int k = 0; k < 4; k++) {
            Check.due("sent " + k, host.output(1, k), 0);
        }
        for (int t = 2; t < 4; t++) {
            Check.due("messages", host.messages(t), 0);
            Check.due("no room was looked for", host.collections(t), 0);
            Check.due("used", host.used(t), 0);
        }
    }

    private static void endedOnesGetNone() {
        Check.says("0 when tenant arg is not ALIVE");
        TenantHost host = laterPair(3, "PUSH 1, NEW, SEND 2, OUT, NIL, SEND 2, OUT, HALT", "HALT");
        host.run(4);
        Check.due("a cell", host.output(1, 0), 0);
        Check.due("null", host.output(1, 1), 0);
        Check.due("messages", host.messages(2), 0);
        Check.due("used", host.used(2), 0);
        Check.due("collections", host.collections(2), 0);
    }

    private static void waitingOnesGetThem() {
        Check.says("It is ALIVE in 1 and 2");
        TenantHost host = laterPair(1, "NIL, SEND 2, OUT, HALT", "RECEIVE, HALT");
        Check.due("it waits", host.state(2), 2);
        host.run(2);
        Check.due("sent", host.output(1, 0), 1);
        Check.due("a message for one that waits", host.messages(2), 1);
        Check.due("it waits still", host.state(2), 2);
        host.run(1);
        Check.due("till its slice", host.state(2), 3);
    }

    private static void runningOnesGetThem() {
        Check.says("It is ALIVE in 1 and 2");
        TenantHost host = pair(1, "NIL, SEND 2, OUT, HALT", "JUMP 0");
        host.run(2);
        Check.due("sent before its first slice", host.output(1, 0), 1);
        Check.due("messages", host.messages(2), 1);
        Check.due("running", host.state(2), 1);
    }

    private static void nullIsItsOwnCopy() {
        Check.says("null and shared cells are their own copies");
        TenantHost host = laterPair(1, "NIL, SEND 2, OUT, HALT",
            "PUSH 1, NEW, STORE 3, RECEIVE, NIL, SAME, OUT, JUMP 7");
        host.run(8);
        Check.due("sent to a full heap", host.output(1, 0), 1);
        Check.due("null came", host.output(2, 0), 1);
        Check.due("no cell was made", host.used(2), 1);
        Check.due("nothing was collected", host.collections(2), 0);
    }

    private static void sharedIsItsOwnCopy() {
        Check.says("null and shared cells are their own copies");
        TenantHost host = laterPair(1, "SHARED 0, SEND 2, OUT, HALT",
            "PUSH 1, NEW, STORE 3, RECEIVE, SHARED 0, SAME, OUT, JUMP 7");
        host.share(50, -1, -1);
        host.run(8);
        Check.due("sent to a full heap", host.output(1, 0), 1);
        Check.due("the shared cell came", host.output(2, 0), 1);
        Check.due("no cell was made", host.used(2), 1);
        Check.due("nothing was collected", host.collections(2), 0);
    }

    private static void copiesAreApartFromWhatWasSent() {
        Check.says("messages being copies");
        TenantHost host = pair(3, "PUSH 1, NEW, STORE 2, LOAD 2, SEND 2, OUT, LOAD 2, PUSH 9, SET 0, LOAD 2, LOAD 2, "
            + "SET 1, RECEIVE, HALT", "RECEIVE, STORE 2, LOAD 2, GET 0, OUT, LOAD 2, PUSH 4, SET 0, RECEIVE, HALT");
        host.run(40);
        Check.due("sent", host.output(1, 0), 1);
        Check.due("the num when it was sent", host.output(2, 0), 1);
        Check.due("the receiver's cell", host.look(2, 0, 0), 4);
        Check.due("the receiver's left", host.look(2, 0, 1), 0);
        Check.due("the sender's cell", host.look(1, 0, 0), 9);
        Check.due("the sender's left", host.look(1, 0, 1), 9);
        Check.due("used by the sender", host.used(1), 1);
        Check.due("used by the receiver", host.used(2), 1);
    }

    private static void eachCellIsCopiedOnce() {
        Check.says("(each cell is copied once, however often it is reached)");
        // A cell whose left and right are one cell, which leads back to the first and on to a shared one.
        TenantHost host = pair(2, "PUSH 1, NEW, STORE 2, PUSH 2, NEW, STORE 3, LOAD 2, LOAD 3, SET 1, LOAD 2, LOAD 3, "
            + "SET 2, LOAD 3, LOAD 2, SET 1, LOAD 3, SHARED 0, SET 2, LOAD 2, SEND 2, OUT, HALT",
            "RECEIVE, STORE 2, LOAD 2, GET 1, LOAD 2, GET 2, SAME, OUT, LOAD 2, GET 1, GET 1, LOAD 2, SAME, OUT, "
            + "LOAD 2, GET 1, GET 2, SHARED 0, SAME, OUT, RECEIVE, HALT");
        host.run(60);
        Check.due("sent", host.output(1, 0), 1);
        Check.due("each cell is copied once", host.used(2), 2);
        Check.due("left and right are one", host.output(2, 0), 1);
        Check.due("back to the first", host.output(2, 1), 1);
        Check.due("on to the shared one", host.output(2, 2), 1);
        Check.due("num", host.look(2, 0, 0), 1);
        Check.due("num of the left", host.look(2, 0, 1), 2);
        Check.due("num of the right", host.look(2, 1, 1), 2);
        Check.due("num of the shared one", host.look(2, 2, 2), 50);
    }

    private static void onlyWhatCanBeReachedIsCopied() {
        Check.says("every cell that can be reached (by left and right) and is not shared becomes one new cell");
        // 1 has 2 to its left; what is sent is 2, whose right is 3.
        TenantHost host = pair(5, "PUSH 1, NEW, STORE 2, LOAD 2, PUSH 2, NEW, SET 1, LOAD 2, GET 1, PUSH 3, NEW, SET 2, "
            + "LOAD 2, GET 1, SEND 2, OUT, RECEIVE, HALT", "RECEIVE, STORE 2, RECEIVE, HALT");
        host.run(20);
        Check.due("sent", host.output(1, 0), 1);
        Check.due("used", host.used(2), 2);
        Check.due("num", host.look(2, 0, 0), 2);
        Check.due("left", host.look(2, 0, 1), 0);
        Check.due("right", host.look(2, 1, 1), 3);
        Check.due("used by the sender", host.used(1), 3);
    }

    private static TenantHost chainOf24Sent(int cellsOfReceiver) {
        TenantHost host = new TenantHost(8);
        host.permit(0, 1, 1);
        Code.launched(host, 0, 24, 3000, "LOAD 0, NEW, DUP, LOAD 2, SET 2, STORE 2, LOAD 0, PUSH 1, ADD, DUP, STORE 0, "
            + "PUSH 24, SUB, ZERO 15, JUMP 0, LOAD 2, SEND 1, OUT, HALT");
        Code.launched(host, 1, cellsOfReceiver, 3000, "RECEIVE, STORE 2, RECEIVE, HALT");
        host.run(200);
        host.run(100);
        return host;
    }

    private static void copyOfTwentyFourCells() {
        Check.says("every cell that can be reached .. becomes one new cell of that tenant, with the same num");
        TenantHost host = chainOf24Sent(24);
        Check.due("sent", host.output(0, 0), 1);
        Check.due("used", host.used(1), 24);
        Check.due("live", host.live(1), 24);
        Check.due("collections", host.collections(1), 0);
        for (int n = 0; n < 24; n++) {
            Check.due("num after " + n, host.look(1, -1, n), 23 - n);
        }
        Check.due("behind the last", host.look(1, -1, 24), 0);
    }

    private static final String TWO = "PUSH 1, NEW, DUP, PUSH 2, NEW, SET 1, SEND 2, OUT, RECEIVE, HALT";

    private static void exactRoomInTheReceiversHeap() {
        Check.says("There is ROOM for n cells in a heap when used + n is at most the cells reserved");
        TenantHost host = pair(2, TWO, "JUMP 0");
        host.run(8);
        Check.due("two cells into a heap of two", host.output(1, 0), 1);
        Check.due("it did not collect", host.collections(2), 0);
        Check.due("used", host.used(2), 2);
        Check.due("messages", host.messages(2), 1);
    }

    private static void noRoomInTheReceiversHeap() {
        Check.says("else 0 when there is no room for the copy in its heap");
        TenantHost host = pair(1, TWO, "JUMP 0");
        host.run(8);
        Check.due("two cells into a heap of one", host.output(1, 0), 0);
        Check.due("it collected", host.collections(2), 1);
        Check.due("messages", host.messages(2), 0);
        Check.due("used", host.used(2), 0);
        Check.due("the sender did not collect", host.collections(1), 0);
        Check.due("the sender goes on", host.state(1), 2);
        Check.due("the receiver goes on", host.state(2), 1);
    }

    private static void liveCellsHoldTheirPlace() {
        Check.says("(to a SEND the heap is that of tenant arg ..)");
        TenantHost host = laterPair(3, TWO, "PUSH 7, NEW, STORE 2, PUSH 8, NEW, STORE 3, RECEIVE, HALT");
        host.run(2);
        Check.due("two live cells hold their place", host.output(1, 0), 0);
        Check.due("it collected", host.collections(2), 1);
        Check.due("its cells are there", host.look(2, 0, 0), 7);
        Check.due("used", host.used(2), 2);
        Check.due("the sender's are as they were", host.used(1), 2);
    }

    private static void garbageMakesRoom() {
        Check.says("if it is not, the tenant collects, and then it is looked once more");
        TenantHost host = laterPair(3, TWO, "PUSH 7, NEW, STORE 2, PUSH 8, NEW, POP, RECEIVE, STORE 3, JUMP 8");
        Check.due("used before", host.used(2), 2);
        host.run(2);
        Check.due("garbage makes room", host.output(1, 0), 1);
        Check.due("it collected", host.collections(2), 1);
        Check.due("used", host.used(2), 3);
        Check.due("live", host.live(2), 3);
        Check.due("its own cell is there", host.look(2, 0, 0), 7);
    }

    private static void aCopyLargerThanTheHeap() {
        Check.says("else 0 when there is no room for the copy in its heap");
        TenantHost host = chainOf24Sent(23);
        Check.due("not sent", host.output(0, 0), 0);
        Check.due("it collected", host.collections(1), 1);
        Check.due("used", host.used(1), 0);
        Check.due("waiting", host.state(1), 2);
    }

    private static void senderMayEndAfterIt() {
        Check.says("When it ENDS .. its cells, its messages, its stack are gone");
        TenantHost host = pair(2, "PUSH 1, NEW, DUP, PUSH 2, NEW, SET 1, SEND 2, HALT",
            "PUSH 0, POP, PUSH 0, POP, PUSH 0, POP, PUSH 0, POP, RECEIVE, STORE 2, RECEIVE, HALT");
        host.run(4);
        Check.due("the sender has ended", host.state(1), 3);
        host.run(8);
        Check.due("the copy is there", host.look(2, 0, 0), 1);
        Check.due("with its left", host.look(2, 0, 1), 2);
        Check.due("used", host.used(2), 2);
    }

    private static TenantHost alone(int cells, String text) {
        TenantHost host = new TenantHost(8);
        host.permit(0, 0, 1);
        Code.launched(host, 0, cells, 200, text);
        host.run(40);
        return host;
    }

    private static void sendToItself() {
        Check.says("(to a SEND the heap is that of tenant arg, perhaps the sender's own)");
        TenantHost host = alone(2, "PUSH 5, NEW, STORE 2, LOAD 2, SEND 0, OUT, RECEIVE, STORE 3, LOAD 2, LOAD 3, SAME, "
            + "OUT, LOAD 3, PUSH 6, SET 0, LOAD 2, GET 0, OUT, JUMP 18");
        Check.due("sent", host.output(0, 0), 1);
        Check.due("the copy is another cell", host.output(0, 1), 0);
        Check.due("the first is as it was", host.output(0, 2), 5);
        Check.due("used", host.used(0), 2);
        Check.due("live", host.live(0), 2);
        Check.due("collections", host.collections(0), 0);
        TenantHost ring = alone(2, "PUSH 5, NEW, DUP, DUP, SET 1, PUSH 6, NEW, POP, NIL, SEND 0, POP, RECEIVE, HALT");
        Check.due("null to itself in a full heap", ring.state(0), 3);
        Check.due("collections", ring.collections(0), 0);
    }

    private static void sendToItselfKeepsWhatIsSent() {
        Check.says("on its stack (also what the instruction that is being done takes)");
        // The reference that SEND takes is the only root of the two cells when the tenant collects.
        TenantHost host = alone(4, "PUSH 9, NEW, POP, PUSH 5, NEW, DUP, PUSH 6, NEW, SET 2, SEND 0, OUT, RECEIVE, "
            + "STORE 2, RECEIVE, HALT");
        Check.due("sent", host.output(0, 0), 1);
        Check.due("collections", host.collections(0), 1);
        Check.due("what was sent, and the copy", host.used(0), 4);
        Check.due("live", host.live(0), 2);
        Check.due("num", host.look(0, 0, 0), 5);
        Check.due("num of the right", host.look(0, 1, 1), 6);
        Check.due("left", host.look(0, 0, 1), 0);
    }

    private static void sendToItselfWithoutRoom() {
        Check.says("on its stack (also what the instruction that is being done takes)");
        TenantHost full = alone(3, "PUSH 5, NEW, DUP, PUSH 6, NEW, SET 2, SEND 0, OUT, RECEIVE, HALT");
        Check.due("not sent: what is sent takes its place", full.output(0, 0), 0);
        Check.due("collections", full.collections(0), 1);
        Check.due("used", full.used(0), 2);
        Check.due("live after", full.live(0), 0);
        Check.due("it goes on", full.state(0), 2);
    }

    private static void sendIsDenied() {
        Check.says("DENIED unless the tenant may send to tenant arg");
        TenantHost host = new TenantHost(8);
        host.permit(0, 1, 6);
        host.permit(1, 0, 7);
        Code.launched(host, 0, 1, 10, "PUSH 1, NEW, SEND 1, OUT, HALT");
        Code.launched(host, 1, 1, 10, "JUMP 0");
        host.run(1);
        Check.due("denied", host.state(0), 10);
        Check.due("steps", host.steps(0), 3);
        Check.due("messages", host.messages(1), 0);
        Check.due("used", host.used(1), 0);
        TenantHost idle = new TenantHost(8);
        Code.launched(idle, 0, 1, 10, "NIL, SEND 1, OUT, HALT");
        idle.run(1);
        Check.due("denied also when the other is idle", idle.state(0), 10);
        TenantHost itself = new TenantHost(8);
        itself.permit(0, 1, 7);
        Code.launched(itself, 0, 1, 10, "NIL, SEND 0, OUT, HALT");
        itself.run(1);
        Check.due("denied to itself", itself.state(0), 10);
    }

    private static void messagesAreGoneWhenItEnds() {
        Check.says("When it ENDS .. its messages .. are gone");
        TenantHost host = pair(2, "NIL, SEND 2, OUT, PUSH 1, NEW, SEND 2, OUT, HALT", "IN, ZERO 0, HALT");
        host.run(4);
        Check.due("messages", host.messages(2), 2);
        host.feed(2, 1);
        host.run(4);
        Check.due("it has ended", host.state(2), 3);
        Check.due("messages", host.messages(2), 0);
    }

    private static void messagesOfNoTenant() {
        Check.says("How many messages tenant t has; -1 when there is no tenant t");
        TenantHost host = pair(2, "NIL, SEND 2, OUT, HALT", "JUMP 0");
        host.run(4);
        for (int t : Check.NOT_0_TO_3) {
            Check.due("messages(" + t + ")", host.messages(t), -1);
        }
        int[] messages = {0, 0, 1, 0};
        for (int t = 0; t < 4; t++) {
            Check.due("messages(" + t + ")", host.messages(t), messages[t]);
        }
    }
}
