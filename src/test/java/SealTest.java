/** Promises 4 (seal) and 5 (shape); the rules that seal looks at are SealingTest's. */
public final class SealTest {
    public static void main(String[] args) {
        sealNeedsAProgram();
        sealIsOnce();
        sealIsForGood();
        sealNeedsAnInstruction();
        refusedStaysOpen();
        refusedStaysAsItIs();
        shapesTellTypesFromTheLowest();
        shapeOfAnEmptyStack();
        shapeOfSixValues();
        shapeWhereWaysMeet();
        shapesOfEveryOp();
        shapeOfWhatIsNotReached();
        shapeNeedsAProgram();
        shapeNeedsAPosition();
        shapeNeedsASealedProgram();
        Check.done();
    }

    private static void sealNeedsAProgram() {
        Check.says("False when there is no program p");
        TenantHost host = new TenantHost(8);
        for (int p = 0; p < 4; p++) {
            Code.write(host, p, "HALT");
        }
        for (int p : Check.NOT_0_TO_3) {
            Check.no("seal of program " + p, host.seal(p));
        }
        for (int p = 0; p < 4; p++) {
            Check.due("program " + p + " is open still", host.code(p, 0, 0), 1);
            Check.yes("seal of program " + p, host.seal(p));
        }
    }

    private static void sealIsOnce() {
        Check.says("False when it is sealed already");
        TenantHost host = new TenantHost(8);
        Code.sealed(host, 0, "PUSH 1, HALT");
        Check.no("seal of a sealed program", host.seal(0));
        Check.due("it is sealed still", host.shape(0, 1), 2);
        Check.due("the other programs are not", host.shape(1, 0), -1);
    }

    private static void sealIsForGood() {
        Check.says("may be SEALED, which is for good");
        TenantHost host = new TenantHost(8);
        Code.launched(host, 0, 1, 10, "PUSH 6, OUT, HALT");
        host.clear(0);
        host.code(0, 2, 0);
        host.seal(0);
        host.run(1);
        host.clear(0);
        Check.due("it ran", host.output(0, 0), 6);
        host.reserve(1, 1, 10);
        Check.yes("launch of another with it", host.launch(1, 0));
        host.run(1);
        Check.due("it ran again", host.output(1, 0), 6);
        Check.due("it is sealed still", host.code(0, 0, 0), -1);
    }

    private static void sealNeedsAnInstruction() {
        Check.says("A program can be sealed when it has an instruction");
        TenantHost host = new TenantHost(8);
        Check.no("seal of an empty program", host.seal(0));
        Code.write(host, 0, "HALT");
        host.clear(0);
        Check.no("seal of a cleared program", host.seal(0));
        Check.due("it is open", host.code(0, 0, 0), 0);
        Check.yes("seal of one instruction", host.seal(0));
    }

    private static void refusedStaysOpen() {
        Check.says("it cannot be sealed (it stays open, as it is)");
        TenantHost host = new TenantHost(8);
        Code.write(host, 2, "PUSH 1, ZERO 4, PUSH 7, OUT");
        Check.no("seal", host.seal(2));
        Check.no("seal again", host.seal(2));
        Check.due("no shape", host.shape(2, 0), -1);
        host.reserve(0, 1, 10);
        Check.no("launch", host.launch(0, 2));
        Check.due("it goes on where it was", host.code(2, 0, 0), 4);
        Check.yes("seal of the mended one", host.seal(2));
        Check.due("shape", host.shape(2, 4), 1);
        Check.yes("launch of the mended one", host.launch(0, 2));
        host.run(1);
        Check.due("what it does", host.output(0, 0), 7);
    }

    private static void refusedStaysAsItIs() {
        Check.says("it cannot be sealed (it stays open, as it is)");
        TenantHost host = new TenantHost(8);
        Code.write(host, 1, "PUSH 1, ADD, NIL, HALT");
        Check.no("seal", host.seal(1));
        Check.yes("clear", host.clear(1));
        Code.sealed(host, 1, "HALT, NIL, HALT");
        Check.due("position 0", host.shape(1, 0), 1);
        Check.due("nothing is left of the one that was refused", host.shape(1, 1), 0);
        Check.due("nothing is left of the one that was refused", host.shape(1, 2), 0);
        Check.due("nor its fourth position", host.shape(1, 3), -1);
    }

    private static void shapes(int p, TenantHost host, int... shapes) {
        for (int i = 0; i < shapes.length; i++) {
            Check.due("shape(" + p + ", " + i + ")", host.shape(p, i), shapes[i]);
        }
    }

    private static void shapesTellTypesFromTheLowest() {
        Check.says("1, and for each of its values from the lowest on, twice that and 1 more if it is R");
        TenantHost host = new TenantHost(8);
        Code.sealed(host, 0, "PUSH 1, NIL, PUSH 2, NIL, NIL, PUSH 3, HALT");
        shapes(0, host, 1, 2, 5, 10, 21, 43, 86);
    }

    private static void shapeOfAnEmptyStack() {
        Check.says("With what stack (what its instruction finds) position i is reached: 1");
        TenantHost host = new TenantHost(8);
        for (int p = 0; p < 4; p++) {
            Code.sealed(host, p, "PUSH 1, POP, HALT");
            shapes(p, host, 1, 2, 1, -1);
        }
    }

    private static void shapeOfSixValues() {
        Check.says("1, and for each of its values from the lowest on, twice that and 1 more if it is R");
        TenantHost host = new TenantHost(8);
        Code.sealed(host, 1, "NIL, NIL, NIL, NIL, NIL, NIL, HALT");
        shapes(1, host, 1, 3, 7, 15, 31, 63, 127);
        Code.sealed(host, 2, "IN, IN, IN, IN, IN, IN, HALT");
        shapes(2, host, 1, 2, 4, 8, 16, 32, 64);
    }

    private static void shapeWhereWaysMeet() {
        Check.says("With what stack position i of the sealed program p is reached");
        TenantHost host = new TenantHost(8);
        Code.sealed(host, 2, "IN, ZERO 5, NIL, JUMP 7, POP, NIL, JUMP 7, SEND 1, HALT");
        shapes(2, host, 1, 2, 1, 3, 0, 1, 3, 3, 2);
        Code.sealed(host, 3, "JUMP 3, OUT, HALT, NIL, IN, JUMP 1");
        shapes(3, host, 1, 6, 3, 1, 3, 6);
    }

    private static void shapesOfEveryOp() {
        Check.says("the positions after it are reached with the stack that it leaves");
        shapeAfter("PUSH 1", 2);
        shapeAfter("PUSH 1, PUSH 1, ADD", 2);
        shapeAfter("PUSH 1, PUSH 1, SUB", 2);
        shapeAfter("PUSH 1, PUSH 1, MUL", 2);
        shapeAfter("PUSH 1, PUSH 1, DIV", 2);
        shapeAfter("PUSH 1, PUSH 1, LESS", 2);
        shapeAfter("LOAD 0", 2);
        shapeAfter("LOAD 1", 2);
        shapeAfter("LOAD 2", 3);
        shapeAfter("LOAD 3", 3);
        shapeAfter("PUSH 1, STORE 1", 1);
        shapeAfter("NIL, STORE 2", 1);
        shapeAfter("PUSH 1, DUP", 4);
        shapeAfter("NIL, DUP", 7);
        shapeAfter("PUSH 1, NIL, POP", 2);
        shapeAfter("NIL, PUSH 1, POP", 3);
        shapeAfter("PUSH 1, NEW", 3);
        shapeAfter("NIL, GET 0", 2);
        shapeAfter("NIL, GET 1", 3);
        shapeAfter("NIL, GET 2", 3);
        shapeAfter("NIL, PUSH 1, SET 0", 1);
        shapeAfter("NIL, NIL, SET 1", 1);
        shapeAfter("NIL, NIL, SET 2", 1);
        shapeAfter("NIL, NIL, SAME", 2);
        shapeAfter("SHARED 7", 3);
        shapeAfter("IN", 2);
        shapeAfter("IN, OUT", 1);
        shapeAfter("IN, ZERO 2", 1);
        shapeAfter("NIL, SEND 3", 2);
        shapeAfter("RECEIVE", 3);
        shapeAfter("PUSH 1, START 3", 2);
        shapeAfter("STOP 3", 2);
    }

    private static void shapeAfter(String text, int shape) {
        TenantHost host = new TenantHost(8);
        Code.sealed(host, 0, text + ", HALT");
        Check.due("shape after " + text, host.shape(0, text.split(",").length), shape);
    }

    private static void shapeOfWhatIsNotReached() {
        Check.says("0 when it is not reached");
        TenantHost host = new TenantHost(8);
        Code.sealed(host, 0, "PUSH 1, JUMP 3, POP, HALT, HALT, ADD");
        shapes(0, host, 1, 2, 0, 2, 0, 0, -1);
    }

    private static void shapeNeedsAProgram() {
        Check.says("-1 when there is no such program");
        TenantHost host = new TenantHost(8);
        for (int p = 0; p < 4; p++) {
            Code.sealed(host, p, "HALT");
        }
        for (int p : Check.NOT_0_TO_3) {
            Check.due("shape(" + p + ", 0)", host.shape(p, 0), -1);
        }
    }

    private static void shapeNeedsAPosition() {
        Check.says("-1 when there is no such position");
        TenantHost host = new TenantHost(8);
        Code.sealed(host, 0, "PUSH 1, HALT, HALT");
        Code.sealed(host, 1, "PUSH 1, POP, ".repeat(11) + "PUSH 1, HALT");
        int[] none = {3, 4, 23, 24, -1, Check.MIN, Check.MAX};
        for (int i : none) {
            Check.due("shape(0, " + i + ")", host.shape(0, i), -1);
        }
        Check.due("the last of 24", host.shape(1, 23), 2);
        Check.due("behind the last of 24", host.shape(1, 24), -1);
    }

    private static void shapeNeedsASealedProgram() {
        Check.says("-1 when it is not sealed");
        TenantHost host = new TenantHost(8);
        Check.due("shape of an empty program", host.shape(1, 0), -1);
        Code.write(host, 1, "PUSH 1, HALT");
        Check.due("shape of an open program", host.shape(1, 0), -1);
        Check.due("shape of an open program", host.shape(1, 1), -1);
        host.seal(1);
        Check.due("shape of a sealed program", host.shape(1, 1), 2);
    }
}
