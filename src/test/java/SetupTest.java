/** Promises 6 (share), 7 (reserve), 8 (permit), 9 (launch) and 10 (feed). */
public final class SetupTest {
    public static void main(String[] args) {
        shareNumbersItsCells();
        shareTakesAnyNum();
        sharedPartsMayBeNull();
        atMostEightAreShared();
        sharedPartsAreSharedCells();
        sharedCellsAreSeenByAll();
        reserveNeedsATenant();
        reserveTakesOneToTwentyFourCells();
        reserveTakesOneToThreeThousandSteps();
        reserveIsOnce();
        atMostFortyEightAreReserved();
        permitSumsWhatMayBeDone();
        permitStandsInsteadOfWhatWas();
        permitStandsFromNowOn();
        permitToItself();
        permitNeedsTwoTenants();
        permitTakesZeroToSeven();
        launchBeginsAnew();
        launchNeedsATenant();
        launchNeedsAProgram();
        launchNeedsAReservation();
        launchNeedsASealedProgram();
        launchIsOnce();
        oneProgramForAll();
        feedKeepsTheOrder();
        feedNeedsATenant();
        feedHoldsEight();
        feedAgainWhenSomeWereTaken();
        feedInAnyState();
        inputsNotTakenStay();
        Check.done();
    }

    private static void shareNumbersItsCells() {
        Check.says("A new shared cell .. whose left and right are the shared cells with those numbers: its number (0, 1, ..)");
        TenantHost host = new TenantHost(8);
        for (int i = 0; i < 8; i++) {
            Check.due("share", host.share(i * 10, i - 1, -1), i);
        }
        Code.launched(host, 0, 1, 50, "SHARED 7, STORE 2, NIL, STORE 3, JUMP 4");
        host.run(1);
        for (int n = 0; n < 8; n++) {
            Check.due("num on the way down", host.look(0, 0, n), 70 - 10 * n);
        }
        Check.due("below the lowest", host.look(0, 0, 8), 0);
    }

    private static void shareTakesAnyNum() {
        Check.says("A new shared cell with that num");
        int[] nums = {Check.MIN, -1, 0, 1, Check.MAX};
        for (int num : nums) {
            TenantHost host = new TenantHost(8);
            Check.due("share of " + num, host.share(num, -1, -1), 0);
            Code.launched(host, 0, 1, 50, "SHARED 0, GET 0, OUT, HALT");
            host.run(1);
            Check.due("num", host.output(0, 0), num);
        }
    }

    private static void sharedPartsMayBeNull() {
        Check.says("(-1: null)");
        for (int part = 1; part <= 2; part++) {
            TenantHost host = new TenantHost(8);
            host.share(5, -1, -1);
            Check.due("share", host.share(6, part == 1 ? -1 : 0, part == 2 ? -1 : 0), 1);
            Code.launched(host, 0, 1, 50, "SHARED 1, GET " + part + ", NIL, SAME, OUT, SHARED 1, GET " + (3 - part)
                + ", SHARED 0, SAME, OUT, HALT");
            host.run(8);
            Check.due("number -1 is null", host.output(0, 0), 1);
            Check.due("number 0 is the first", host.output(0, 1), 1);
        }
    }

    private static void atMostEightAreShared() {
        Check.says("-1 when there are 8");
        TenantHost host = new TenantHost(8);
        for (int i = 0; i < 8; i++) {
            Check.due("share", host.share(i + 1, -1, -1), i);
        }
        Check.due("a ninth", host.share(99, -1, -1), -1);
        Check.due("a ninth with parts", host.share(99, 0, 7), -1);
        Code.launched(host, 0, 1, 50, "SHARED 0, GET 0, OUT, SHARED 7, GET 0, OUT, HALT");
        host.run(8);
        Check.due("the first is as it was", host.output(0, 0), 1);
        Check.due("the last is as it was", host.output(0, 1), 8);
    }

    private static void sharedPartsAreSharedCells() {
        Check.says("-1 when left or right is neither -1 nor the number of a shared cell");
        for (int count = 0; count < 8; count++) {
            TenantHost host = new TenantHost(8);
            for (int i = 0; i < count; i++) {
                host.share(i, -1, -1);
            }
            int[] none = {count, count + 1, 8, -2, Check.MIN, Check.MAX};
            for (int number : none) {
                Check.due("share with left " + number + " of " + count, host.share(5, number, -1), -1);
                Check.due("share with right " + number + " of " + count, host.share(5, -1, number), -1);
            }
            Check.due("what was refused is not there", host.share(5, count - 1, count - 1), count);
        }
    }

    private static void sharedCellsAreSeenByAll() {
        Check.says("SHARED: puts R, the shared cell arg (0 .. 7), or null when there is none");
        TenantHost host = new TenantHost(8);
        host.share(11, -1, -1);
        host.share(22, -1, 0);
        Code.sealed(host, 0, "SHARED 1, STORE 2, SHARED 2, NIL, SAME, OUT, RECEIVE, HALT");
        for (int t = 0; t < 4; t++) {
            host.reserve(t, 1, 20);
            host.launch(t, 0);
        }
        host.run(4);
        for (int t = 0; t < 4; t++) {
            Check.due("num", host.look(t, 0, 0), 22);
            Check.due("right", host.look(t, 1, 1), 11);
            Check.due("left", host.look(t, 0, 1), 0);
            Check.due("no shared cell 2", host.output(t, 0), 1);
        }
    }

    private static void reserveNeedsATenant() {
        Check.says("False when there is no tenant t");
        TenantHost host = new TenantHost(8);
        for (int t : Check.NOT_0_TO_3) {
            Check.no("reserve for tenant " + t, host.reserve(t, 24, 1));
        }
        Check.yes("reserve for tenant 0", host.reserve(0, 24, 1));
        Check.yes("reserve for tenant 3", host.reserve(3, 24, 1));
    }

    private static void reserveTakesOneToTwentyFourCells() {
        Check.says("False when cells is not 1 .. 24");
        TenantHost host = new TenantHost(8);
        int[] none = {0, -1, 25, 48, 49, Check.MIN, Check.MAX};
        for (int cells : none) {
            Check.no("reserve of " + cells + " cells", host.reserve(0, cells, 100));
        }
        Check.yes("reserve of 1 cell", host.reserve(0, 1, 100));
        Check.yes("reserve of 24 cells", host.reserve(1, 24, 100));
        Code.sealed(host, 0, "PUSH 1, NEW, DUP, LOAD 2, SET 1, STORE 2, JUMP 0");
        host.launch(0, 0);
        host.launch(1, 0);
        host.run(100);
        Check.due("steps till 1 cell is not enough", host.steps(0), 7 + 2);
        Check.due("steps at which 24 cells are enough still", host.state(1), 5);
    }

    private static void reserveTakesOneToThreeThousandSteps() {
        Check.says("False when steps is not 1 .. 3000");
        TenantHost host = new TenantHost(8);
        int[] none = {0, -1, 3001, Check.MIN, Check.MAX};
        for (int steps : none) {
            Check.no("reserve of " + steps + " steps", host.reserve(0, 1, steps));
        }
        Check.yes("reserve of 1 step", host.reserve(0, 1, 1));
        Check.yes("reserve of 3000 steps", host.reserve(1, 1, 3000));
        Code.sealed(host, 0, "JUMP 0");
        host.launch(0, 0);
        host.launch(1, 0);
        for (int i = 0; i < 8; i++) {
            host.run(200);
        }
        Check.due("1 step", host.steps(0), 1);
        Check.due("3000 steps", host.steps(1), 3000);
    }

    private static void reserveIsOnce() {
        Check.says("False when it is reserved already");
        TenantHost host = new TenantHost(8);
        Check.yes("reserve", host.reserve(0, 2, 5));
        Check.no("reserve again", host.reserve(0, 3, 10));
        Check.no("reserve of the same again", host.reserve(0, 2, 5));
        Code.launched(host, 1, 2, 5, "HALT");
        Check.no("reserve when running", host.reserve(1, 1, 1));
        Code.sealed(host, 0, "PUSH 1, NEW, STORE 2, JUMP 0");
        host.launch(0, 0);
        host.run(8);
        Check.due("steps are those of the first time", host.steps(0), 5);
        Check.no("one that was spent is reserved still", host.reserve(0, 1, 1));
        Check.no("one that is done is reserved still", host.reserve(1, 1, 1));
    }

    private static void atMostFortyEightAreReserved() {
        Check.says("False when the cells reserved for all tenants would be more than 48");
        TenantHost host = new TenantHost(8);
        Check.yes("24 cells", host.reserve(0, 24, 5));
        Check.no("refused for its steps", host.reserve(3, 24, 3001));
        Check.yes("47 cells", host.reserve(3, 23, 5));
        Check.no("49 cells", host.reserve(1, 2, 5));
        Check.yes("48 cells", host.reserve(1, 1, 5));
        Check.no("49 cells", host.reserve(2, 1, 5));
        Code.sealed(host, 0, "HALT");
        host.launch(0, 0);
        host.run(1);
        Check.due("tenant 0 has ended", host.state(0), 3);
        Check.no("its cells are reserved still", host.reserve(2, 1, 1));
        Check.no("launch of the one that was refused", host.launch(2, 0));
        TenantHost even = new TenantHost(8);
        for (int t = 0; t < 4; t++) {
            Check.yes("12 cells each", even.reserve(t, 12, 5));
        }
    }

    private static final String[] ATTEMPTS = {"NIL, SEND 1, HALT", "PUSH 9, START 1, HALT", "STOP 1, HALT"};

    /** The state of tenant 0 after it tried to send (0), start (1) or stop (2). */
    private static int stateAfter(int attempt, TenantHost host) {
        Code.launched(host, 0, 1, 10, ATTEMPTS[attempt]);
        host.run(1);
        return host.state(0);
    }

    private static void permitSumsWhatMayBeDone() {
        Check.says("what is the sum of 1 send, 2 start, 4 stop");
        for (int what = 0; what < 8; what++) {
            for (int k = 0; k < 3; k++) {
                TenantHost host = new TenantHost(8);
                Check.yes("permit of " + what, host.permit(0, 1, what));
                for (int other = 0; other < 16; other++) {
                    if (other != 1) {
                        host.permit(other / 4, other % 4, 7 - what);
                    }
                }
                boolean may = (what >> k & 1) == 1;
                Check.due(ATTEMPTS[k] + " with permit " + what, stateAfter(k, host), may ? 3 : 10);
            }
        }
    }

    private static void permitStandsInsteadOfWhatWas() {
        Check.says("instead of what it might");
        for (int what = 0; what < 8; what++) {
            for (int k = 0; k < 3; k++) {
                TenantHost host = new TenantHost(8);
                host.permit(0, 1, 7 - what);
                Check.yes("permit of " + what, host.permit(0, 1, what));
                boolean may = (what >> k & 1) == 1;
                Check.due(ATTEMPTS[k] + " with permit " + what, stateAfter(k, host), may ? 3 : 10);
            }
        }
    }

    private static void permitStandsFromNowOn() {
        Check.says("What tenant a may do to tenant b from now on");
        TenantHost host = new TenantHost(8);
        host.permit(0, 1, 1);
        Code.launched(host, 0, 1, 100, "NIL, SEND 1, OUT, JUMP 0");
        host.run(1);
        Check.due("permitted", host.state(0), 1);
        Check.yes("permit", host.permit(0, 1, 6));
        Check.due("it is not denied till it sends", host.state(0), 1);
        host.run(4);
        Check.due("no longer permitted", host.state(0), 10);
    }

    private static void permitToItself() {
        Check.says("(they may be the same)");
        TenantHost host = new TenantHost(8);
        for (int t = 0; t < 4; t++) {
            Check.yes("permit", host.permit(t, t, 5));
            Code.launched(host, t, 1, 10, "NIL, SEND " + t + ", OUT, STOP " + t + ", OUT, HALT");
        }
        host.run(4);
        for (int t = 0; t < 4; t++) {
            Check.due("it sent to itself", host.output(t, 0), 1);
            Check.due("it stopped itself", host.state(t), 4);
        }
    }

    private static void permitNeedsTwoTenants() {
        Check.says("False when there is no tenant a or b");
        TenantHost host = new TenantHost(8);
        for (int t : Check.NOT_0_TO_3) {
            Check.no("permit of tenant " + t, host.permit(t, 0, 7));
            Check.no("permit of tenant " + t, host.permit(t, 1, 7));
            Check.no("permit to tenant " + t, host.permit(0, t, 7));
            Check.no("permit of and to tenant " + t, host.permit(t, t, 7));
        }
        Check.due("nothing was permitted", stateAfter(0, host), 10);
    }

    private static void permitTakesZeroToSeven() {
        Check.says("False when what is not 0 .. 7");
        int[] none = {-1, 8, 15, Check.MIN, Check.MAX};
        for (int what : none) {
            for (int k = 0; k < 3; k++) {
                TenantHost before = new TenantHost(8);
                Check.no("permit of " + what, before.permit(0, 1, what));
                Check.due(ATTEMPTS[k] + " is not permitted still", stateAfter(k, before), 10);
                TenantHost after = new TenantHost(8);
                Check.yes("permit of 7", after.permit(0, 1, 7));
                Check.no("permit of " + what, after.permit(0, 1, what));
                Check.due(ATTEMPTS[k] + " is permitted still", stateAfter(k, after), 3);
            }
        }
    }

    private static void launchBeginsAnew() {
        Check.says("then it is RUNNING at position 0, its stack empty, its locals 0 and null");
        TenantHost host = new TenantHost(8);
        host.run(3);
        Code.launched(host, 3, 1, 50, "LOAD 0, OUT, LOAD 1, OUT, LOAD 2, NIL, SAME, OUT, LOAD 3, NIL, SAME, OUT, HALT");
        Check.due("running", host.state(3), 1);
        Check.due("no step was done", host.steps(3), 0);
        Check.due("local 0", host.local(3, 0), 0);
        Check.due("look", host.look(3, 0, 0), 0);
        host.run(8);
        int[] outputs = {0, 0, 1, 1};
        for (int k = 0; k < 4; k++) {
            Check.due("local " + k, host.output(3, k), outputs[k]);
        }
        Check.due("outputs", host.output(3, -1), 4);
    }

    /** A host whose tenants and programs could all be launched. */
    private static TenantHost ready() {
        TenantHost host = new TenantHost(2);
        for (int i = 0; i < 4; i++) {
            Code.sealed(host, i, "JUMP 0");
            host.reserve(i, 1, 10);
        }
        return host;
    }

    private static void allAreIdle(TenantHost host) {
        host.run(4);
        for (int t = 0; t < 4; t++) {
            Check.due("state of tenant " + t, host.state(t), 0);
            Check.due("steps of tenant " + t, host.steps(t), 0);
        }
    }

    private static void launchNeedsATenant() {
        Check.says("false when there is no tenant t");
        TenantHost host = ready();
        for (int t : Check.NOT_0_TO_3) {
            Check.no("launch of tenant " + t, host.launch(t, 0));
        }
        allAreIdle(host);
        Check.yes("launch of tenant 0", host.launch(0, 0));
        Check.yes("launch of tenant 3", host.launch(3, 0));
    }

    private static void launchNeedsAProgram() {
        Check.says("false when there is no program p");
        TenantHost host = ready();
        for (int p : Check.NOT_0_TO_3) {
            Check.no("launch with program " + p, host.launch(0, p));
        }
        allAreIdle(host);
        Check.yes("launch with program 0", host.launch(0, 0));
        Check.yes("launch with program 3", host.launch(1, 3));
    }

    private static void launchNeedsAReservation() {
        Check.says("it can be when it is .. reserved");
        TenantHost host = new TenantHost(2);
        Code.sealed(host, 0, "JUMP 0");
        host.reserve(1, 1, 10);
        Check.no("launch when nothing is reserved", host.launch(0, 0));
        Check.no("reserve that is refused", host.reserve(0, 0, 10));
        Check.no("launch when nothing is reserved", host.launch(0, 0));
        allAreIdle(host);
        host.reserve(0, 1, 10);
        Check.yes("launch when it is reserved", host.launch(0, 0));
    }

    private static void launchNeedsASealedProgram() {
        Check.says("it can be when .. the program is sealed");
        TenantHost host = new TenantHost(2);
        host.reserve(0, 1, 10);
        Code.sealed(host, 0, "HALT");
        Code.write(host, 1, "HALT");
        Check.no("launch with an open program", host.launch(0, 1));
        Check.no("launch with an empty program", host.launch(0, 2));
        allAreIdle(host);
        host.seal(1);
        Check.yes("launch when it is sealed", host.launch(0, 1));
    }

    private static void launchIsOnce() {
        Check.says("it can be when it is IDLE (so once: one that ended never is again)");
        TenantHost host = new TenantHost(2);
        Code.sealed(host, 0, "PUSH 1, RECEIVE, HALT");
        Code.sealed(host, 1, "JUMP 0");
        Code.sealed(host, 2, "PUSH 1, POP, HALT");
        host.permit(3, 3, 4);
        Code.launched(host, 3, 1, 10, "STOP 3, HALT");
        int[] programs = {0, 1, 2};
        for (int t : programs) {
            host.reserve(t, 1, 6);
            Check.yes("launch", host.launch(t, t));
            Check.no("launch when running", host.launch(t, 1));
        }
        host.run(16);
        int[] states = {2, 5, 3, 4};
        int[] steps = {1, 6, 3, 1};
        for (int t = 0; t < 4; t++) {
            Check.due("state of tenant " + t, host.state(t), states[t]);
            Check.no("launch in state " + states[t], host.launch(t, 1));
            host.run(4);
            Check.due("state of tenant " + t + " still", host.state(t), states[t]);
            Check.due("steps of tenant " + t, host.steps(t), steps[t]);
        }
    }

    private static void oneProgramForAll() {
        Check.says("It is LAUNCHED with a program");
        TenantHost host = new TenantHost(8);
        Code.sealed(host, 2, "IN, OUT, HALT");
        for (int t = 0; t < 4; t++) {
            host.reserve(t, 1, 10);
            host.feed(t, t + 5);
            Check.yes("launch", host.launch(t, 2));
        }
        host.run(4);
        for (int t = 0; t < 4; t++) {
            Check.due("output of tenant " + t, host.output(t, 0), t + 5);
        }
    }

    private static void feedKeepsTheOrder() {
        Check.says("Puts v behind the inputs of tenant t");
        TenantHost host = new TenantHost(6);
        Check.yes("feed", host.feed(0, 5));
        Check.yes("feed", host.feed(0, Check.MIN));
        Check.yes("feed", host.feed(0, Check.MAX));
        Check.yes("feed of another", host.feed(1, 77));
        Code.launched(host, 0, 1, 100, "IN, OUT, JUMP 0");
        host.run(5);
        Check.due("first", host.output(0, 0), 5);
        Check.due("second", host.output(0, 1), Check.MIN);
        Check.due("third", host.output(0, 2), Check.MAX);
        Check.due("no fourth", host.output(0, 3), 0);
        Check.due("outputs", host.output(0, -1), 4);
        host.feed(0, 6);
        host.run(4);
        Check.due("fed later", host.output(0, 4), 6);
    }

    private static void feedNeedsATenant() {
        Check.says("False when there is no tenant t");
        TenantHost host = new TenantHost(8);
        for (int t : Check.NOT_0_TO_3) {
            Check.no("feed of tenant " + t, host.feed(t, 9));
        }
        for (int t = 0; t < 4; t++) {
            Code.launched(host, t, 1, 10, "IN, OUT, HALT");
        }
        host.run(4);
        for (int t = 0; t < 4; t++) {
            Check.due("tenant " + t + " was not fed", host.output(t, 0), 0);
        }
    }

    private static void feedHoldsEight() {
        Check.says("False when 8 are there that were not taken");
        TenantHost host = new TenantHost(8);
        for (int i = 0; i < 8; i++) {
            Check.yes("feed", host.feed(3, 100 + i));
        }
        Check.no("a ninth", host.feed(3, 999));
        Check.no("a ninth again", host.feed(3, 999));
        Check.yes("another has its own eight", host.feed(2, 1));
        Code.launched(host, 3, 1, 100, "IN, OUT, JUMP 0");
        host.run(20);
        for (int i = 0; i < 8; i++) {
            Check.due("input " + i, host.output(3, i), 100 + i);
        }
        Check.due("no ninth", host.output(3, 8), 0);
        Check.due("outputs", host.output(3, -1), 13);
    }

    private static void feedAgainWhenSomeWereTaken() {
        Check.says("(it is taken by that)");
        TenantHost host = new TenantHost(4);
        for (int i = 0; i < 8; i++) {
            Check.yes("feed", host.feed(3, 100 + i));
        }
        Code.launched(host, 3, 1, 100, "IN, OUT, JUMP 0");
        host.run(4);
        Check.yes("two were taken", host.feed(3, 108));
        Check.yes("two were taken", host.feed(3, 109));
        Check.no("and two put in", host.feed(3, 110));
        host.run(40);
        for (int i = 0; i < 10; i++) {
            Check.due("input " + i, host.output(3, i), 100 + i);
        }
        Check.due("no eleventh", host.output(3, 10), 0);
    }

    private static void feedInAnyState() {
        Check.says("(in any state)");
        TenantHost host = new TenantHost(8);
        Check.yes("feed when idle and not reserved", host.feed(0, 1));
        Code.launched(host, 0, 1, 100, "RECEIVE, HALT");
        Check.yes("feed when running", host.feed(0, 1));
        host.run(1);
        Check.yes("feed when waiting", host.feed(0, 1));
        Code.launched(host, 1, 1, 100, "HALT");
        host.run(4);
        for (int i = 0; i < 8; i++) {
            Check.yes("feed when ended", host.feed(1, i));
        }
        Check.no("a ninth when ended", host.feed(1, 9));
    }

    private static void inputsNotTakenStay() {
        Check.says("False when .. 8 are there that were not taken");
        TenantHost host = new TenantHost(8);
        for (int i = 0; i < 8; i++) {
            host.feed(0, i);
        }
        Code.launched(host, 0, 1, 100, "IN, HALT");
        host.run(1);
        Check.due("it has ended", host.state(0), 3);
        Check.yes("one was taken", host.feed(0, 8));
        Check.no("the others are there still", host.feed(0, 9));
    }
}
