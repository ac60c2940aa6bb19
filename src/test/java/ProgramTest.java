/** Promises 2 (code) and 3 (clear). */
public final class ProgramTest {
    private static final int PUSH = 1;
    private static final int[] WITHOUT_ARG = {0, 2, 3, 4, 5, 6, 9, 10, 11, 14, 15, 19, 20, 22};

    public static void main(String[] args) {
        codeAnswersPositions();
        codeNeedsAProgram();
        codeNeedsAnOpenProgram();
        atMostTwentyFourInstructions();
        codeNeedsAnOp();
        argIsZeroWhereNothingIsSaid();
        argOfPushIsAnyInt();
        argOfLoadAndStore();
        argOfGetAndSet();
        argOfShared();
        argOfJumps();
        argOfSendStartAndStop();
        codeRefusedPutsNothing();
        clearTakesAllAway();
        clearOfAnEmptyProgram();
        clearOfAFullProgram();
        clearNeedsAProgram();
        clearNeedsAnOpenProgram();
        Check.done();
    }

    private static void codeAnswersPositions() {
        Check.says("Puts an instruction behind those of program p: its position");
        TenantHost host = new TenantHost(1);
        for (int i = 0; i < 24; i++) {
            for (int p = 0; p < 4; p++) {
                Check.due("position in program " + p, host.code(p, 0, 0), i);
            }
        }
    }

    private static void codeNeedsAProgram() {
        Check.says("-1 when there is no program p");
        TenantHost host = new TenantHost(1);
        for (int p : Check.NOT_0_TO_3) {
            Check.due("code of program " + p, host.code(p, 0, 0), -1);
        }
        Check.due("program 0", host.code(0, 0, 0), 0);
        Check.due("program 3", host.code(3, 0, 0), 0);
    }

    private static void codeNeedsAnOpenProgram() {
        Check.says("-1 when it is sealed");
        TenantHost host = new TenantHost(1);
        Code.sealed(host, 0, "HALT");
        Check.due("code of a sealed program", host.code(0, 0, 0), -1);
        Check.due("it has no second position", host.shape(0, 1), -1);
        Check.due("the other programs are open", host.code(1, 0, 0), 0);
    }

    private static void atMostTwentyFourInstructions() {
        Check.says("-1 when it has 24");
        for (int p = 0; p < 4; p++) {
            TenantHost host = new TenantHost(8);
            Code.write(host, p, "PUSH 1, POP, ".repeat(11) + "PUSH 9");
            Check.due("the 24th", host.code(p, 0, 0), 23);
            Check.due("a 25th", host.code(p, 0, 0), -1);
            Check.due("a 25th that would do harm", host.code(p, 2, 0), -1);
            Check.yes("the 24 are as they were", host.seal(p));
            Check.due("the last of them", host.shape(p, 23), 2);
            Check.due("no position 24", host.shape(p, 24), -1);
        }
    }

    private static void codeNeedsAnOp() {
        Check.says("-1 when op is not 0 .. 24");
        TenantHost host = new TenantHost(1);
        int[] none = {-1, 25, 26, 256, Check.MIN, Check.MAX};
        for (int op : none) {
            Check.due("code of op " + op, host.code(0, op, 0), -1);
        }
        Check.due("op 0", host.code(0, 0, 0), 0);
        Check.due("op 24", host.code(0, 24, 0), 1);
    }

    private static void argIsZeroWhereNothingIsSaid() {
        Check.says("the arg is 0 where nothing is said of it (another one is refused)");
        for (int op : WITHOUT_ARG) {
            argsAre(op, 0);
        }
    }

    private static void argOfPushIsAnyInt() {
        Check.says("PUSH: puts the arg (any int)");
        int[] any = {0, 1, -1, 24, Check.MIN, Check.MAX};
        TenantHost host = new TenantHost(8);
        for (int i = 0; i < any.length; i++) {
            Check.due("PUSH " + any[i], host.code(0, PUSH, any[i]), i);
        }
        for (int arg : any) {
            Check.due("what PUSH put", Code.ran("PUSH " + arg + ", OUT, HALT").output(0, 0), arg);
        }
    }

    /** Every arg from 0 to the highest is taken, and none beside them. */
    private static void argsAre(int op, int highest) {
        TenantHost host = new TenantHost(1);
        int[] refused = {-1, highest + 1, Check.MIN, Check.MAX};
        for (int arg = 0; arg <= highest; arg++) {
            Check.due(Code.OPS.get(op) + " " + arg, host.code(0, op, arg), arg);
        }
        for (int arg : refused) {
            Check.due(Code.OPS.get(op) + " " + arg, host.code(1, op, arg), -1);
        }
        Check.due("nothing was put", host.code(1, 0, 0), 0);
    }

    private static void argsAre(String op, int highest) {
        argsAre(Code.OPS.indexOf(op), highest);
    }

    private static void argOfLoadAndStore() {
        Check.says("LOAD: puts LOCAL arg (0 .. 3 ..)");
        argsAre("LOAD", 3);
        Check.says("STORE: takes a value of that local's type");
        argsAre("STORE", 3);
    }

    private static void argOfGetAndSet() {
        Check.says("GET (arg 0: its num, 1: its left, 2: its right)");
        argsAre("GET", 2);
        Check.says("SET (arg 0, arg 1, 2)");
        argsAre("SET", 2);
    }

    private static void argOfShared() {
        Check.says("the shared cell arg (0 .. 7)");
        argsAre("SHARED", 7);
    }

    private static void argOfJumps() {
        Check.says("JUMP: goes on at position arg (0 .. 23)");
        argsAre("JUMP", 23);
        Check.says("ZERO: .. goes on at position arg (0 .. 23) when it is 0");
        argsAre("ZERO", 23);
    }

    private static void argOfSendStartAndStop() {
        Check.says("SEND (arg 0 .. 3)");
        argsAre("SEND", 3);
        Check.says("START (arg 0 .. 3)");
        argsAre("START", 3);
        Check.says("STOP (arg 0 .. 3)");
        argsAre("STOP", 3);
    }

    private static void codeRefusedPutsNothing() {
        Check.says("A call that is refused changes nothing");
        TenantHost host = new TenantHost(8);
        Code.write(host, 0, "PUSH 5");
        host.code(0, 7, 9);
        host.code(0, 30, 0);
        host.code(0, 0, 1);
        host.code(4, 0, 0);
        Code.write(host, 0, "OUT, HALT");
        Check.yes("seal", host.seal(0));
        Check.due("no position was added", host.shape(0, 3), -1);
        host.reserve(0, 1, 10);
        host.launch(0, 0);
        host.run(1);
        Check.due("output", host.output(0, 0), 5);
    }

    private static void clearTakesAllAway() {
        Check.says("Takes all instructions of an open program away: true");
        TenantHost host = new TenantHost(8);
        Code.write(host, 0, "POP, POP, POP");
        Code.write(host, 1, "HALT, HALT");
        Check.yes("clear", host.clear(0));
        Check.due("the other program is as it was", host.code(1, 0, 0), 2);
        Check.no("an empty program is not sealed", host.seal(0));
        Check.due("first position", host.code(0, 0, 0), 0);
        Check.yes("nothing of the old one is left", host.seal(0));
        Check.due("positions", host.shape(0, 1), -1);
    }

    private static void clearOfAnEmptyProgram() {
        Check.says("Takes all instructions of an open program away: true");
        TenantHost host = new TenantHost(8);
        for (int p = 0; p < 4; p++) {
            Check.yes("clear of an empty program", host.clear(p));
            Check.yes("clear of a cleared program", host.clear(p));
            Check.due("first position", host.code(p, 0, 0), 0);
        }
    }

    private static void clearOfAFullProgram() {
        Check.says("Takes all instructions of an open program away: true");
        TenantHost host = new TenantHost(8);
        Code.write(host, 2, "POP, ".repeat(23) + "POP");
        Check.yes("clear of 24 instructions", host.clear(2));
        Code.write(host, 2, "PUSH 1, POP, ".repeat(11) + "PUSH 1, HALT");
        Check.due("a 25th", host.code(2, 0, 0), -1);
        Check.yes("seal of 24 new ones", host.seal(2));
    }

    private static void clearNeedsAProgram() {
        Check.says("false when there is no program p");
        TenantHost host = new TenantHost(8);
        for (int p = 0; p < 4; p++) {
            Code.write(host, p, "HALT");
        }
        for (int p : Check.NOT_0_TO_3) {
            Check.no("clear of program " + p, host.clear(p));
        }
        for (int p = 0; p < 4; p++) {
            Check.due("program " + p + " is as it was", host.code(p, 0, 0), 1);
        }
    }

    private static void clearNeedsAnOpenProgram() {
        Check.says("false when it is sealed");
        TenantHost host = new TenantHost(8);
        Code.sealed(host, 3, "PUSH 4, OUT, HALT");
        Check.no("clear of a sealed program", host.clear(3));
        Check.due("it is as it was", host.shape(3, 1), 2);
        Check.due("it is sealed still", host.code(3, 0, 0), -1);
        host.reserve(0, 1, 10);
        Check.yes("launch", host.launch(0, 3));
        Check.no("clear of one that runs", host.clear(3));
        host.run(1);
        Check.due("output", host.output(0, 0), 4);
    }
}
