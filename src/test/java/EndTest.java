/** STATES: how tenants end, what is gone then, what stays, and that what ends them does nothing else. */
public final class EndTest {
    /** The endings by state, from 3 on; MEMORY and OUTPUT fill a heap and the outputs before. */
    private static final String[] ENDINGS = {
        "HALT", "STOP 0, HALT", "JUMP 13", "PUSH 1, PUSH 0, DIV, HALT", "NIL, GET 0, HALT", "SHARED 0, NIL, SET 1, HALT",
        "PUSH 8, NEW, DUP, LOAD 3, SET 1, STORE 3, JUMP 13", "NIL, SEND 3, HALT", "PUSH 1, OUT, JUMP 13"};

    public static void main(String[] args) {
        statesOfEnds();
        whatIsThereBefore();
        cellsAreGone();
        messagesAreGone();
        localsAreZeroAndNull();
        outputsStay();
        stepsStay();
        countsStay();
        sharedCellsStay();
        whatEndsItIsAStep();
        outputThatEndsPutsNothing();
        deniedSendDoesNothing();
        deniedStartDoesNothing();
        deniedStopDoesNothing();
        barrierChangesNothing();
        othersGoOn();
        Check.done();
    }

    private static TenantHost before() {
        TenantHost host = new TenantHost(1);
        host.share(1, -1, -1);
        host.permit(0, 0, 5);
        host.permit(0, 1, 7);
        return host;
    }

    private static final String BEGINNING = "PUSH 4, STORE 1, PUSH 5, NEW, STORE 2, PUSH 6, OUT, LOAD 2, SEND 0, OUT, "
        + "PUSH 7, NEW, POP, ";

    /** Tenant 0 with locals, cells, a message and two outputs, which then ends in the state. */
    private static TenantHost ended(int state) {
        TenantHost host = before();
        Code.launched(host, 0, 4, 90, BEGINNING + ENDINGS[state - 3]);
        host.run(200);
        host.run(200);
        return host;
    }

    private static void statesOfEnds() {
        Check.says("3 DONE, 4 KILLED, 5 SPENT, 6 DIVIDE, 7 NULL, 8 BARRIER, 9 MEMORY, 10 DENIED, 11 OUTPUT");
        for (int state = 3; state <= 11; state++) {
            Check.due("state by " + ENDINGS[state - 3], ended(state).state(0), state);
        }
    }

    private static void whatIsThereBefore() {
        Check.says("It is ALIVE in 1 and 2");
        TenantHost host = before();
        Code.launched(host, 0, 4, 90, BEGINNING + "HALT");
        host.run(4 * 13);
        Check.due("state", host.state(0), 1);
        Check.due("used", host.used(0), 3);
        Check.due("live", host.live(0), 2);
        Check.due("messages", host.messages(0), 1);
        Check.due("local 1", host.local(0, 1), 4);
        Check.due("look", host.look(0, 0, 0), 5);
        Check.due("outputs", host.output(0, -1), 2);
        Check.due("steps", host.steps(0), 13);
    }

    private static void cellsAreGone() {
        Check.says("When it ENDS (states from 3 on) its cells .. are gone: nothing is used");
        for (int state = 3; state <= 11; state++) {
            Check.due("used in state " + state, ended(state).used(0), 0);
            Check.due("live in state " + state, ended(state).live(0), 0);
        }
    }

    private static void messagesAreGone() {
        Check.says("When it ENDS .. its messages .. are gone");
        for (int state = 3; state <= 11; state++) {
            Check.due("messages in state " + state, ended(state).messages(0), 0);
        }
    }

    private static void localsAreZeroAndNull() {
        Check.says("its locals are 0 and null");
        for (int state = 3; state <= 11; state++) {
            Check.due("local 0 in state " + state, ended(state).local(0, 0), 0);
            Check.due("local 1 in state " + state, ended(state).local(0, 1), 0);
            Check.due("look in state " + state, ended(state).look(0, 0, 0), 0);
        }
        TenantHost first = before();
        Code.launched(first, 0, 1, 90, "PUSH 4, STORE 0, SHARED 0, STORE 2, HALT");
        first.run(16);
        Check.due("local 0 before", first.local(0, 0), 4);
        Check.due("look at a shared cell before", first.look(0, 0, 0), 1);
        first.run(4);
        Check.due("local 0", first.local(0, 0), 0);
        Check.due("look", first.look(0, 0, 0), 0);
    }

    private static void outputsStay() {
        Check.says("Its outputs, counts and steps stay");
        for (int state = 3; state <= 11; state++) {
            TenantHost host = ended(state);
            Check.due("outputs in state " + state, host.output(0, -1), state == 11 ? 16 : 2);
            Check.due("output 0 in state " + state, host.output(0, 0), 6);
            Check.due("output 1 in state " + state, host.output(0, 1), 1);
        }
    }

    private static void stepsStay() {
        Check.says("Its outputs, counts and steps stay");
        int[] steps = {14, 14, 90, 16, 15, 16, 29, 15, 13 + 14 * 3 + 2};
        for (int state = 3; state <= 11; state++) {
            Check.due("steps in state " + state, ended(state).steps(0), steps[state - 3]);
        }
    }

    private static void countsStay() {
        Check.says("Its outputs, counts and steps stay");
        Check.due("collections", ended(9).collections(0), 2);
        TenantHost host = before();
        Code.launched(host, 0, 1, 90, "PUSH 1, NEW, POP, PUSH 1, NEW, POP, PUSH 1, NEW, POP, STOP 0, HALT");
        host.run(100);
        Check.due("killed", host.state(0), 4);
        Check.due("collections", host.collections(0), 2);
    }

    private static void sharedCellsStay() {
        Check.says("SHARED cells (at most 8) never change");
        TenantHost host = ended(3);
        Code.launched(host, 1, 1, 90, "SHARED 0, GET 0, OUT, HALT");
        host.run(40);
        Check.due("the shared cell after an end", host.output(1, 0), 1);
        Check.due("the next shared cell", host.share(2, 0, 0), 1);
    }

    private static void whatEndsItIsAStep() {
        Check.says("An instruction that is done, or that ends it, is one of its steps");
        String[] texts = {
            "HALT", "STOP 0, HALT", "IN, IN, DIV, HALT", "NIL, GET 0, HALT", "SHARED 0, NIL, SET 1, HALT",
            "IN, NEW, IN, NEW, HALT", "NIL, SEND 2, HALT", "PUSH 0, START 0, HALT", "STOP 1, HALT"};
        int[] steps = {1, 1, 3, 2, 3, 4, 2, 2, 1};
        for (int i = 0; i < texts.length; i++) {
            TenantHost host = new TenantHost(8);
            host.share(1, -1, -1);
            host.permit(0, 0, 5);
            Code.launched(host, 0, 1, 10, texts[i]);
            host.run(1);
            Check.yes(texts[i] + " ended it", host.ended(0) == 0);
            Check.due("steps of " + texts[i], host.steps(0), steps[i]);
        }
    }

    private static void outputThatEndsPutsNothing() {
        Check.says("one that ends it by .. OUTPUT does nothing else");
        TenantHost full = ended(11);
        Check.due("count", full.output(0, -1), 16);
        Check.due("no seventeenth", full.output(0, 16), 0);
        Check.due("the last", full.output(0, 15), 1);
    }

    /** Tenant 0 runs the text, tenant 1 is launched too, tenant 2 is reserved; nothing is permitted. */
    private static TenantHost denied(String text) {
        TenantHost host = new TenantHost(8);
        Code.launched(host, 1, 1, 90, "PUSH 3, NEW, POP, RECEIVE, HALT");
        host.reserve(2, 1, 90);
        host.run(4);
        Code.launched(host, 0, 1, 90, text);
        host.run(1);
        Check.due("denied by " + text, host.state(0), 10);
        Check.due("outputs", host.output(0, -1), 0);
        return host;
    }

    private static void deniedSendDoesNothing() {
        Check.says("one that ends it by .. DENIED .. does nothing else");
        TenantHost host = denied("PUSH 1, NEW, SEND 1, OUT, HALT");
        Check.due("messages", host.messages(1), 0);
        Check.due("used", host.used(1), 1);
        Check.due("collections", host.collections(1), 0);
    }

    private static void deniedStartDoesNothing() {
        Check.says("one that ends it by .. DENIED .. does nothing else");
        TenantHost host = denied("PUSH 1, START 2, OUT, HALT");
        Check.due("idle", host.state(2), 0);
        Check.yes("it can be launched", host.launch(2, 1));
    }

    private static void deniedStopDoesNothing() {
        Check.says("one that ends it by .. DENIED .. does nothing else");
        TenantHost host = denied("STOP 1, OUT, HALT");
        Check.due("waiting", host.state(1), 2);
        Check.due("not ended", host.ended(1), -1);
        Check.due("used", host.used(1), 1);
    }

    private static void barrierChangesNothing() {
        Check.says("one that ends it by .. BARRIER .. does nothing else");
        TenantHost host = new TenantHost(8);
        host.share(5, -1, -1);
        Code.launched(host, 0, 1, 90, "SHARED 0, PUSH 9, SET 0, HALT");
        Code.launched(host, 1, 1, 90, "SHARED 0, GET 0, OUT, HALT");
        host.run(4);
        Check.due("barrier", host.state(0), 8);
        Check.due("num", host.output(1, 0), 5);
    }

    private static void othersGoOn() {
        Check.says("in slices of time that do not hang on what the others do");
        TenantHost alone = new TenantHost(4);
        TenantHost among = new TenantHost(4);
        String text = "PUSH 1, NEW, STORE 2, LOAD 0, PUSH 1, ADD, STORE 0, JUMP 0";
        Code.launched(alone, 1, 3, 100, text);
        Code.launched(among, 1, 3, 100, text);
        Code.launched(among, 0, 3, 100, "PUSH 1, PUSH 0, DIV, HALT");
        Code.launched(among, 2, 3, 100, "PUSH 1, NEW, JUMP 3, JUMP 3");
        Code.launched(among, 3, 3, 100, "RECEIVE, HALT");
        for (int i = 0; i < 60; i++) {
            alone.run(2);
            among.run(2);
            Check.due("state", among.state(1), alone.state(1));
            Check.due("steps", among.steps(1), alone.steps(1));
            Check.due("used", among.used(1), alone.used(1));
            Check.due("collections", among.collections(1), alone.collections(1));
            Check.due("local", among.local(1, 0), alone.local(1, 0));
        }
    }
}
