/** Promise 18 (messages), with SEND and RECEIVE and the copies that they make. */
public final class MessageTest {
    public static void main(String[] args) {
        messagesComeInOrder();
        atMostFourMessages();
        onlyTheAliveGetMessages();
        nullAndSharedAreTheirOwnCopies();
        copiesAreApartFromWhatWasSent();
        copiesKeepTheirForm();
        roomIsLookedForInTheReceiversHeap();
        sendToItself();
        sendToItselfKeepsWhatIsSent();
        deniedComesFirst();
        Check.done();
    }

    /** Tenant 1 may send to tenant 2, which runs the text in so many cells. */
    private static TenantHost pair(int cells, String sender, String receiver) {
        TenantHost host = new TenantHost(8);
        host.share(50, -1, -1);
        host.permit(1, 2, 1);
        Code.launched(host, 1, 10, 200, sender);
        Code.launched(host, 2, cells, 200, receiver);
        return host;
    }

    /** The same, but the receiver has had its first slice when the sender is launched. */
    private static TenantHost laterPair(int cells, String sender, String receiver) {
        TenantHost host = new TenantHost(8);
        host.permit(1, 2, 1);
        Code.launched(host, 2, cells, 200, receiver);
        host.run(4);
        Code.launched(host, 1, 10, 200, sender);
        return host;
    }

    private static void messagesComeInOrder() {
        TenantHost host = pair(5, "PUSH 1, NEW, SEND 2, OUT, PUSH 2, NEW, SEND 2, OUT, PUSH 3, NEW, SEND 2, OUT, HALT",
            "IN, ZERO 0, RECEIVE, GET 0, OUT, RECEIVE, GET 0, OUT, RECEIVE, GET 0, OUT, RECEIVE, HALT");
        host.run(12);
        Check.due("messages", host.messages(2), 3);
        Check.due("used", host.used(2), 3);
        Check.due("live", host.live(2), 3);
        host.feed(2, 1);
        host.run(20);
        for (int k = 0; k < 3; k++) {
            Check.due("message " + k, host.output(2, k), k + 1);
            Check.due("sent " + k, host.output(1, k), 1);
        }
        Check.due("messages are taken away", host.messages(2), 0);
        Check.due("waiting", host.state(2), 2);
        Check.due("live", host.live(2), 0);
        Check.due("used", host.used(2), 3);
    }

    private static void atMostFourMessages() {
        TenantHost host = pair(6, "NIL, SEND 2, OUT, NIL, SEND 2, OUT, NIL, SEND 2, OUT, NIL, SEND 2, OUT, "
            + "NIL, SEND 2, OUT, PUSH 1, NEW, SEND 2, OUT, RECEIVE, HALT", "IN, ZERO 0, RECEIVE, POP, JUMP 0");
        int[] sent = {1, 1, 1, 1, 0, 0};
        host.run(40);
        for (int k = 0; k < 6; k++) {
            Check.due("sent " + k, host.output(1, k), sent[k]);
        }
        Check.due("outputs", host.output(1, -1), 6);
        Check.due("messages", host.messages(2), 4);
        Check.due("nothing was made for the fifth", host.used(2), 0);
        host.feed(2, 1);
        host.run(4);
        Check.due("one was taken", host.messages(2), 3);
        TenantHost full = pair(1, "PUSH 1, NEW, SEND 2, OUT, NIL, SEND 2, OUT, NIL, SEND 2, OUT, NIL, SEND 2, OUT, "
            + "PUSH 1, NEW, SEND 2, OUT, HALT", "JUMP 0");
        full.run(40);
        Check.due("when there are four no room is looked for", full.collections(2), 0);
    }

    private static void onlyTheAliveGetMessages() {
        TenantHost host = new TenantHost(8);
        host.permit(1, 0, 1);
        host.permit(1, 2, 1);
        host.permit(1, 3, 1);
        Code.launched(host, 0, 1, 50, "RECEIVE, HALT");
        Code.launched(host, 2, 1, 10, "HALT");
        host.reserve(3, 1, 50);
        host.run(4);
        Code.launched(host, 1, 1, 50, "NIL, SEND 0, OUT, NIL, SEND 2, OUT, NIL, SEND 3, OUT, HALT");
        host.run(2);
        Check.due("a message for one that waits", host.messages(0), 1);
        Check.due("it waits still", host.state(0), 2);
        host.run(3);
        Check.due("till its slice", host.state(0), 3);
        host.run(1);
        Check.due("to one that waits", host.output(1, 0), 1);
        Check.due("to one that ended", host.output(1, 1), 0);
        Check.due("to one that is idle", host.output(1, 2), 0);
        Check.due("messages of one that ended", host.messages(2), 0);
        Check.due("messages of an idle one", host.messages(3), 0);
    }

    private static void nullAndSharedAreTheirOwnCopies() {
        TenantHost host = pair(1, "SHARED 0, SEND 2, OUT, NIL, SEND 2, OUT, HALT",
            "PUSH 1, NEW, STORE 3, RECEIVE, SHARED 0, SAME, OUT, RECEIVE, NIL, SAME, OUT, JUMP 11");
        host.run(20);
        Check.due("sent to a full heap", host.output(1, 0), 1);
        Check.due("sent to a full heap", host.output(1, 1), 1);
        Check.due("the shared cell", host.output(2, 0), 1);
        Check.due("null", host.output(2, 1), 1);
        Check.due("no cell was made", host.used(2), 1);
        Check.due("nothing was collected", host.collections(2), 0);
    }

    private static void copiesAreApartFromWhatWasSent() {
        TenantHost host = pair(3, "PUSH 1, NEW, STORE 2, LOAD 2, SEND 2, OUT, LOAD 2, PUSH 9, SET 0, LOAD 2, LOAD 2, "
            + "SET 1, RECEIVE, HALT", "RECEIVE, STORE 2, LOAD 2, GET 0, OUT, LOAD 2, PUSH 4, SET 0, RECEIVE, HALT");
        host.run(40);
        Check.due("sent", host.output(1, 0), 1);
        Check.due("the num when it was sent", host.output(2, 0), 1);
        Check.due("the receiver's cell", host.look(2, 0, 0), 4);
        Check.due("the receiver's left", host.look(2, 0, 1), 0);
        Check.due("the sender's cell", host.look(1, 0, 0), 9);
        Check.due("the sender's left", host.look(1, 0, 1), 9);
        Check.due("used by the sender", host.used(1), 1);
        Check.due("used by the receiver", host.used(2), 1);
    }

    private static void copiesKeepTheirForm() {
        // A cell whose left and right are one cell, which leads back to the first and on to a shared one.
        TenantHost host = pair(2, "PUSH 1, NEW, STORE 2, PUSH 2, NEW, STORE 3, LOAD 2, LOAD 3, SET 1, LOAD 2, LOAD 3, "
            + "SET 2, LOAD 3, LOAD 2, SET 1, LOAD 3, SHARED 0, SET 2, LOAD 2, SEND 2, OUT, HALT",
            "RECEIVE, STORE 2, LOAD 2, GET 1, LOAD 2, GET 2, SAME, OUT, LOAD 2, GET 1, GET 1, LOAD 2, SAME, OUT, "
            + "LOAD 2, GET 1, GET 2, SHARED 0, SAME, OUT, RECEIVE, HALT");
        host.run(60);
        Check.due("sent", host.output(1, 0), 1);
        Check.due("each cell is copied once", host.used(2), 2);
        Check.due("left and right are one", host.output(2, 0), 1);
        Check.due("back to the first", host.output(2, 1), 1);
        Check.due("on to the shared one", host.output(2, 2), 1);
        Check.due("num", host.look(2, 0, 0), 1);
        Check.due("num of the left", host.look(2, 0, 1), 2);
        Check.due("num of the right", host.look(2, 1, 1), 2);
        Check.due("num of the shared one", host.look(2, 2, 2), 50);
    }

    private static void roomIsLookedForInTheReceiversHeap() {
        String two = "PUSH 1, NEW, DUP, PUSH 2, NEW, SET 1, SEND 2, OUT, RECEIVE, HALT";
        TenantHost small = pair(1, two, "JUMP 0");
        small.run(8);
        Check.due("two cells into a heap of one", small.output(1, 0), 0);
        Check.due("it collected", small.collections(2), 1);
        Check.due("messages", small.messages(2), 0);
        Check.due("the sender did not collect", small.collections(1), 0);
        TenantHost enough = pair(2, two, "JUMP 0");
        enough.run(8);
        Check.due("two cells into a heap of two", enough.output(1, 0), 1);
        Check.due("it did not collect", enough.collections(2), 0);
        Check.due("used", enough.used(2), 2);
        TenantHost held = laterPair(3, two, "PUSH 7, NEW, STORE 2, PUSH 8, NEW, STORE 3, RECEIVE, HALT");
        held.run(2);
        Check.due("two live cells hold their place", held.output(1, 0), 0);
        Check.due("it collected", held.collections(2), 1);
        Check.due("its cells are there", held.look(2, 0, 0), 7);
        Check.due("used", held.used(2), 2);
        TenantHost garbage = laterPair(3, two, "PUSH 7, NEW, STORE 2, PUSH 8, NEW, POP, RECEIVE, STORE 3, JUMP 8");
        Check.due("used before", garbage.used(2), 2);
        garbage.run(2);
        Check.due("garbage makes room", garbage.output(1, 0), 1);
        Check.due("it collected", garbage.collections(2), 1);
        Check.due("used", garbage.used(2), 3);
        Check.due("live", garbage.live(2), 3);
    }

    private static TenantHost alone(int cells, String text) {
        TenantHost host = new TenantHost(8);
        host.permit(0, 0, 1);
        Code.launched(host, 0, cells, 200, text);
        host.run(40);
        return host;
    }

    private static void sendToItself() {
        TenantHost host = alone(2, "PUSH 5, NEW, STORE 2, LOAD 2, SEND 0, OUT, RECEIVE, STORE 3, LOAD 2, LOAD 3, SAME, "
            + "OUT, LOAD 3, PUSH 6, SET 0, LOAD 2, GET 0, OUT, JUMP 18");
        Check.due("sent", host.output(0, 0), 1);
        Check.due("the copy is another cell", host.output(0, 1), 0);
        Check.due("the first is as it was", host.output(0, 2), 5);
        Check.due("used", host.used(0), 2);
        Check.due("live", host.live(0), 2);
        Check.due("collections", host.collections(0), 0);
        TenantHost ring = alone(2, "PUSH 5, NEW, DUP, DUP, SET 1, PUSH 6, NEW, POP, NIL, SEND 0, POP, RECEIVE, HALT");
        Check.due("null to itself in a full heap", ring.state(0), 3);
        Check.due("collections", ring.collections(0), 0);
    }

    private static void sendToItselfKeepsWhatIsSent() {
        // The reference that SEND takes is the only root of the two cells when the tenant collects.
        TenantHost host = alone(4, "PUSH 9, NEW, POP, PUSH 5, NEW, DUP, PUSH 6, NEW, SET 2, SEND 0, OUT, RECEIVE, "
            + "STORE 2, RECEIVE, HALT");
        Check.due("sent", host.output(0, 0), 1);
        Check.due("collections", host.collections(0), 1);
        Check.due("what was sent, and the copy", host.used(0), 4);
        Check.due("live", host.live(0), 2);
        Check.due("num", host.look(0, 0, 0), 5);
        Check.due("num of the right", host.look(0, 1, 1), 6);
        Check.due("left", host.look(0, 0, 1), 0);
        TenantHost full = alone(3, "PUSH 5, NEW, DUP, PUSH 6, NEW, SET 2, SEND 0, OUT, RECEIVE, HALT");
        Check.due("not sent: what is sent takes its place", full.output(0, 0), 0);
        Check.due("collections", full.collections(0), 1);
        Check.due("used", full.used(0), 2);
        Check.due("live after", full.live(0), 0);
    }

    private static void deniedComesFirst() {
        TenantHost host = new TenantHost(8);
        Code.launched(host, 0, 1, 10, "PUSH 1, NEW, SEND 1, OUT, HALT");
        Code.launched(host, 1, 1, 10, "JUMP 0");
        host.run(1);
        Check.due("denied", host.state(0), 10);
        Check.due("steps", host.steps(0), 3);
        Check.due("messages", host.messages(1), 0);
        Check.due("used", host.used(1), 0);
        TenantHost idle = new TenantHost(8);
        idle.permit(0, 1, 6);
        Code.launched(idle, 0, 1, 10, "NIL, SEND 1, OUT, HALT");
        idle.run(1);
        Check.due("denied also when the other is idle", idle.state(0), 10);
    }
}
