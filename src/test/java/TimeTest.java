/** Promises 11 (run), 12 (state), 13 (steps) and 17 (ended), with TIME. */
public final class TimeTest {
    public static void main(String[] args) {
        runAnswersTheNextSlice();
        runTakesZeroToTwoHundred();
        runOfZeroDoesNothing();
        slicesBelongToTenantsInTurn();
        slicesGoOnFarBeyondTwoHundred();
        sliceTakesItsTimeWhenNothingIsDone();
        atMostLengthInstructions();
        endedOneDoesNoMore();
        spentWhenStepsAreAsManyAsReserved();
        spentIsSeenBeforeAnInstruction();
        lastStepMayEndItOtherwise();
        spentIsSeenBeforeReceive();
        lastStepMayBeAReceive();
        spentAfterThreeThousand();
        spentWithOneStep();
        receiveThatIsNotDoneIsNoStep();
        waitingEndsTheSlice();
        receiveIsTriedAgainInTheNextSlice();
        waitingDoesNotSpend();
        endedTellsTheSlice();
        endedTellsAnothersSlice();
        endedIsSaidOfEveryEnd();
        stateOfNoTenant();
        stepsOfNoTenant();
        endedOfNoTenant();
        Check.done();
    }

    private static void runAnswersTheNextSlice() {
        Check.says("The next n slices. Answers the number of the slice that comes next then");
        TenantHost host = new TenantHost(8);
        Check.due("run(1)", host.run(1), 1);
        Check.due("run(199)", host.run(199), 200);
        Check.due("run(200)", host.run(200), 400);
        Check.due("run(3)", host.run(3), 403);
    }

    private static void runTakesZeroToTwoHundred() {
        Check.says("Nothing is done when n is not 0 .. 200 (the answer is the same)");
        TenantHost host = new TenantHost(8);
        Code.launched(host, 0, 1, 100, "JUMP 0");
        Code.launched(host, 2, 1, 100, "JUMP 0");
        host.run(2);
        int[] refused = {-1, 201, -200, 1000, Check.MIN, Check.MAX};
        for (int n : refused) {
            Check.due("run(" + n + ")", host.run(n), 2);
            Check.due("steps of tenant 0", host.steps(0), 8);
            Check.due("steps of tenant 2", host.steps(2), 0);
        }
        Check.due("run(200)", host.run(200), 202);
    }

    private static void runOfZeroDoesNothing() {
        Check.says("The next n slices");
        TenantHost host = new TenantHost(8);
        Code.launched(host, 0, 1, 100, "JUMP 0");
        Check.due("run(0)", host.run(0), 0);
        Check.due("steps", host.steps(0), 0);
        Check.due("run(1)", host.run(1), 1);
        Check.due("run(0)", host.run(0), 1);
        Check.due("steps", host.steps(0), 8);
    }

    private static void slicesBelongToTenantsInTurn() {
        Check.says("slice k belongs to tenant k % 4");
        TenantHost host = new TenantHost(3);
        Code.sealed(host, 0, "JUMP 0");
        for (int t = 0; t < 4; t++) {
            host.reserve(t, 1, 3000);
            host.launch(t, 0);
        }
        for (int k = 0; k < 10; k++) {
            host.run(1);
            for (int t = 0; t < 4; t++) {
                int slices = k / 4 + (k % 4 >= t ? 1 : 0);
                Check.due("steps of tenant " + t + " after slice " + k, host.steps(t), 3 * slices);
            }
        }
    }

    private static void slicesGoOnFarBeyondTwoHundred() {
        Check.says("TIME goes in SLICES 0, 1, ..; slice k belongs to tenant k % 4");
        TenantHost host = new TenantHost(1);
        for (int i = 1; i <= 500; i++) {
            Check.due("run(200)", host.run(200), 200 * i);
        }
        Code.launched(host, 1, 1, 10, "HALT");
        host.run(1);
        Check.due("slice 100000 is tenant 0's", host.state(1), 1);
        host.run(1);
        Check.due("slice 100001 is tenant 1's", host.state(1), 3);
        Check.due("it ended there", host.ended(1), 100001);
    }

    private static void sliceTakesItsTimeWhenNothingIsDone() {
        Check.says("One slice takes as long as another, whether anything was done in it or not");
        TenantHost host = new TenantHost(5);
        Code.launched(host, 2, 1, 3000, "JUMP 0");
        Code.launched(host, 1, 1, 3000, "HALT");
        Code.launched(host, 3, 1, 3000, "RECEIVE, HALT");
        host.run(2);
        Check.due("not its slice yet", host.steps(2), 0);
        host.run(1);
        Check.due("its first slice", host.steps(2), 5);
        host.run(3);
        Check.due("slices of others", host.steps(2), 5);
        host.run(1);
        Check.due("its second slice", host.steps(2), 10);
    }

    private static void atMostLengthInstructions() {
        Check.says("In its slice a tenant that is ALIVE does at most LENGTH instructions");
        for (int length = 1; length <= 8; length++) {
            TenantHost host = new TenantHost(length);
            Code.launched(host, 0, 1, 100, "PUSH 1, POP, PUSH 1, POP, PUSH 1, POP, PUSH 1, POP, PUSH 1, POP, HALT");
            host.run(1);
            Check.due("steps in a slice of " + length, host.steps(0), length);
            host.run(4);
            Check.due("steps in two slices of " + length, host.steps(0), Math.min(11, 2 * length));
        }
    }

    private static void endedOneDoesNoMore() {
        Check.says("as long as it is alive");
        TenantHost host = new TenantHost(8);
        Code.launched(host, 0, 1, 100, "PUSH 1, OUT, HALT, PUSH 2, OUT, HALT");
        host.run(9);
        Check.due("steps", host.steps(0), 3);
        Check.due("outputs", host.output(0, -1), 1);
        Check.due("done", host.state(0), 3);
    }

    private static void spentWhenStepsAreAsManyAsReserved() {
        Check.says("when its steps are as many as were reserved, it ends, SPENT");
        for (int steps = 1; steps <= 20; steps++) {
            TenantHost host = new TenantHost(4);
            Code.launched(host, 1, 1, steps, "JUMP 0");
            host.run(40);
            Check.due("state with " + steps, host.state(1), 5);
            Check.due("steps with " + steps, host.steps(1), steps);
            Check.due("ended with " + steps, host.ended(1), 1 + 4 * (steps / 4));
        }
    }

    private static void spentIsSeenBeforeAnInstruction() {
        Check.says("does at most LENGTH instructions ..: before each, when its steps are as many as were reserved");
        TenantHost host = new TenantHost(4);
        Code.launched(host, 1, 1, 4, "JUMP 0");
        host.run(4);
        Check.due("no instruction comes in this slice", host.state(1), 1);
        Check.due("steps", host.steps(1), 4);
        host.run(1);
        Check.due("nor in another's", host.state(1), 1);
        host.run(1);
        Check.due("spent", host.state(1), 5);
        Check.due("steps", host.steps(1), 4);
        Check.due("ended", host.ended(1), 5);
    }

    private static void lastStepMayEndItOtherwise() {
        Check.says("An instruction that is done, or that ends it, is one of its steps");
        TenantHost host = new TenantHost(8);
        Code.launched(host, 0, 1, 3, "PUSH 1, OUT, HALT");
        Code.launched(host, 1, 1, 2, "PUSH 1, OUT, HALT");
        Code.launched(host, 2, 1, 3, "PUSH 1, PUSH 0, DIV, HALT");
        Code.launched(host, 3, 1, 2, "PUSH 1, PUSH 0, DIV, HALT");
        host.run(4);
        int[] states = {3, 5, 6, 5};
        int[] steps = {3, 2, 3, 2};
        for (int t = 0; t < 4; t++) {
            Check.due("state of tenant " + t, host.state(t), states[t]);
            Check.due("steps of tenant " + t, host.steps(t), steps[t]);
        }
    }

    private static void spentIsSeenBeforeReceive() {
        Check.says("When RECEIVE is not done (the steps looked at before it, also when it is tried again)");
        TenantHost host = new TenantHost(8);
        Code.launched(host, 0, 1, 2, "PUSH 1, POP, RECEIVE, HALT");
        host.run(1);
        Check.due("spent, not waiting", host.state(0), 5);
        Check.due("steps", host.steps(0), 2);
        TenantHost later = new TenantHost(2);
        Code.launched(later, 0, 1, 2, "PUSH 1, POP, RECEIVE, HALT");
        later.run(4);
        Check.due("not looked at yet", later.state(0), 1);
        later.run(1);
        Check.due("spent, not waiting", later.state(0), 5);
    }

    private static void lastStepMayBeAReceive() {
        Check.says("in its next slice it is tried again (it is RUNNING when it is done)");
        TenantHost host = new TenantHost(1);
        host.permit(1, 0, 1);
        Code.launched(host, 0, 1, 1, "RECEIVE, POP, HALT");
        Code.launched(host, 1, 1, 10, "NIL, SEND 0, HALT");
        host.run(8);
        Check.due("waiting", host.state(0), 2);
        Check.due("no step", host.steps(0), 0);
        host.run(1);
        Check.due("the one step that it has", host.steps(0), 1);
        Check.due("running", host.state(0), 1);
        host.run(4);
        Check.due("spent", host.state(0), 5);
        Check.due("ended", host.ended(0), 12);
    }

    private static void spentAfterThreeThousand() {
        Check.says("when its steps are as many as were reserved, it ends, SPENT");
        TenantHost host = new TenantHost(8);
        Code.launched(host, 0, 1, 3000, "JUMP 0");
        for (int i = 0; i < 7; i++) {
            host.run(200);
        }
        host.run(100);
        Check.due("steps after 375 slices", host.steps(0), 3000);
        Check.due("running", host.state(0), 1);
        host.run(1);
        Check.due("spent", host.state(0), 5);
        Check.due("steps stay", host.steps(0), 3000);
        Check.due("ended", host.ended(0), 1500);
    }

    private static void spentWithOneStep() {
        Check.says("when its steps are as many as were reserved, it ends, SPENT");
        TenantHost host = new TenantHost(8);
        Code.launched(host, 0, 1, 1, "PUSH 1, OUT, HALT");
        Check.due("not before its slice", host.state(0), 1);
        host.run(1);
        Check.due("spent", host.state(0), 5);
        Check.due("one step", host.steps(0), 1);
        Check.due("nothing was put out", host.output(0, -1), 0);
    }

    private static void receiveThatIsNotDoneIsNoStep() {
        Check.says("the tenant is WAITING, no step is counted");
        TenantHost host = new TenantHost(4);
        Code.launched(host, 0, 1, 100, "PUSH 1, RECEIVE, POP, OUT, JUMP 0");
        host.run(1);
        Check.due("waiting", host.state(0), 2);
        Check.due("no step is counted", host.steps(0), 1);
        host.run(8);
        Check.due("waiting still", host.state(0), 2);
        Check.due("no step is counted when tried again", host.steps(0), 1);
        Check.due("it has not ended", host.ended(0), -1);
    }

    private static void waitingEndsTheSlice() {
        Check.says("and the slice is over for it");
        TenantHost host = new TenantHost(8);
        host.permit(1, 0, 1);
        Code.launched(host, 0, 1, 100, "RECEIVE, POP, JUMP 0");
        Code.launched(host, 1, 1, 100, "NIL, SEND 0, HALT");
        host.run(2);
        Check.due("a message has come", host.messages(0), 1);
        Check.due("waiting till its slice", host.state(0), 2);
        host.run(2);
        Check.due("waiting till its slice", host.state(0), 2);
        Check.due("no step till its slice", host.steps(0), 0);
        host.run(1);
        Check.due("RECEIVE, POP, JUMP", host.steps(0), 3);
        Check.due("and it waits for the next", host.state(0), 2);
    }

    private static void receiveIsTriedAgainInTheNextSlice() {
        Check.says("in its next slice it is tried again (it is RUNNING when it is done)");
        TenantHost host = new TenantHost(4);
        host.permit(1, 0, 1);
        Code.launched(host, 0, 1, 100, "PUSH 7, RECEIVE, POP, OUT, JUMP 0");
        Code.launched(host, 1, 1, 100, "NIL, SEND 0, HALT");
        host.run(5);
        Check.due("RECEIVE, POP, OUT, JUMP were done", host.steps(0), 5);
        Check.due("running", host.state(0), 1);
        Check.due("output", host.output(0, 0), 7);
        Check.due("the message was taken away", host.messages(0), 0);
        host.run(4);
        Check.due("PUSH was done", host.steps(0), 6);
        Check.due("waiting again", host.state(0), 2);
    }

    private static void waitingDoesNotSpend() {
        Check.says("the tenant is WAITING, no step is counted");
        TenantHost host = new TenantHost(8);
        Code.launched(host, 0, 1, 2, "PUSH 1, RECEIVE, HALT");
        for (int i = 0; i < 20; i++) {
            host.run(200);
        }
        Check.due("waiting after 1000 slices of its own", host.state(0), 2);
        Check.due("steps", host.steps(0), 1);
    }

    private static void endedTellsTheSlice() {
        Check.says("The slice in which tenant t ended .. -1 when it has not");
        TenantHost host = new TenantHost(8);
        Code.launched(host, 1, 1, 3000, "JUMP 0");
        Code.launched(host, 0, 1, 100, "HALT");
        Code.launched(host, 2, 1, 100, "PUSH 1, POP, PUSH 1, POP, PUSH 1, POP, PUSH 1, POP, HALT");
        Check.due("launched, but not ended", host.ended(0), -1);
        host.run(7);
        Check.due("runs still", host.ended(1), -1);
        Check.due("ended in slice 0", host.ended(0), 0);
        Check.due("ended in its second slice", host.ended(2), 6);
        Check.due("never launched", host.ended(3), -1);
        host.run(9);
        Check.due("it stays", host.ended(0), 0);
        Check.due("it stays", host.ended(2), 6);
    }

    private static void endedTellsAnothersSlice() {
        Check.says("(the one that was going on, also another tenant's)");
        TenantHost host = new TenantHost(8);
        host.permit(3, 1, 4);
        host.permit(3, 3, 4);
        Code.launched(host, 1, 1, 100, "JUMP 0");
        host.run(6);
        Code.launched(host, 3, 1, 100, "STOP 1, OUT, STOP 1, OUT, STOP 3, HALT");
        host.run(2);
        Check.due("stopped in another's slice", host.ended(1), 7);
        Check.due("stopped itself", host.ended(3), 7);
        host.run(9);
        Check.due("it stays", host.ended(1), 7);
    }

    private static void endedIsSaidOfEveryEnd() {
        Check.says("The slice in which tenant t ended");
        String[] texts = {
            "HALT", "STOP 0, HALT", "JUMP 0", "IN, IN, DIV, HALT", "NIL, GET 0, HALT", "SHARED 0, NIL, SET 1, HALT",
            "IN, NEW, STORE 2, IN, NEW, STORE 3, JUMP 3", "NIL, SEND 1, HALT", "IN, OUT, JUMP 0"};
        for (int i = 0; i < texts.length; i++) {
            TenantHost host = new TenantHost(8);
            host.share(1, -1, -1);
            host.permit(0, 0, 4);
            host.run(1);
            Code.launched(host, 0, 1, i == 2 ? 5 : 100, texts[i]);
            host.run(40);
            Check.due("state after " + texts[i], host.state(0), i + 3);
            Check.due("slice in which it ended by " + texts[i], host.ended(0), i == 8 ? 28 : 4);
        }
    }

    private static void stateOfNoTenant() {
        Check.says("The state of tenant t; -1 when there is no tenant t");
        for (int t : Check.NOT_0_TO_3) {
            Check.due("state of tenant " + t, finished().state(t), -1);
        }
    }

    private static void stepsOfNoTenant() {
        Check.says("The steps of tenant t; -1 when there is no tenant t");
        for (int t : Check.NOT_0_TO_3) {
            Check.due("steps of tenant " + t, finished().steps(t), -1);
        }
    }

    private static void endedOfNoTenant() {
        Check.says("-1 when .. there is no tenant t");
        for (int t : Check.NOT_0_TO_3) {
            Check.due("ended of tenant " + t, finished().ended(t), -1);
        }
    }

    /** A host all of whose tenants have ended. */
    private static TenantHost finished() {
        TenantHost host = new TenantHost(8);
        for (int t = 0; t < 4; t++) {
            Code.launched(host, t, 1, 10, "PUSH 1, OUT, HALT");
        }
        host.run(4);
        return host;
    }
}
