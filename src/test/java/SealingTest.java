/** The rules of SEALING, each by programs that keep it just so and programs that just break it. */
public final class SealingTest {
    private static final String SIX = "PUSH 1, PUSH 2, PUSH 3, PUSH 4, PUSH 5, PUSH 6";
    private static final String SIX_NULL = "NIL, NIL, NIL, NIL, NIL, NIL";

    public static void main(String[] args) {
        positionZeroFindsAnEmptyStack();
        twoNumbersAreFound();
        oneNumberIsFound();
        oneReferenceIsFound();
        localsHaveTheirTypes();
        eitherTypeIsFound();
        setFindsACellUnderAValue();
        sameFindsTwoReferences();
        whatTakesNothingFindsAnything();
        moreThanSixMayNotBeLeft();
        sixMayBeLeft();
        haltGoesNowhere();
        jumpGoesToItsArgAlone();
        zeroGoesBothWays();
        othersGoToTheNext();
        stacksOfOtherTypesMayNotMeet();
        stacksOfOtherLengthsMayNotMeet();
        likeStacksMayMeet();
        whatIsNotReachedIsNotLookedAt();
        oneInstructionIsEnough();
        twentyFourInstructionsCanBeReached();
        Check.done();
    }

    private static void sound(String... texts) {
        for (String text : texts) {
            Check.yes("seal of " + text, Code.canSeal(text));
        }
    }

    private static void broken(String... texts) {
        for (String text : texts) {
            Check.no("seal of " + text, Code.canSeal(text));
        }
    }

    private static void positionZeroFindsAnEmptyStack() {
        Check.says("Position 0 is REACHED with an empty stack");
        String[] taking = {
            "ADD", "SUB", "MUL", "DIV", "LESS", "STORE 0", "STORE 2", "DUP", "POP", "NEW", "GET 0", "GET 1", "SET 0",
            "SET 1", "SAME", "ZERO 1", "OUT", "SEND 0", "START 0"};
        for (String op : taking) {
            broken(op + ", HALT");
        }
        String[] putting = {
            "PUSH 1", "LOAD 0", "LOAD 2", "NIL", "SHARED 0", "JUMP 1", "IN", "RECEIVE", "STOP 0"};
        for (String op : putting) {
            sound(op + ", HALT");
        }
        broken("PUSH 1, JUMP 0");
        broken("NIL, JUMP 0");
        sound("PUSH 1, POP, JUMP 0");
    }

    private static void twoNumbersAreFound() {
        Check.says("its instruction must find the types that it takes: I I");
        String[] ops = {"ADD", "SUB", "MUL", "DIV", "LESS"};
        for (String op : ops) {
            sound("PUSH 1, PUSH 1, " + op + ", HALT", "NIL, PUSH 1, PUSH 1, " + op + ", HALT");
            broken("PUSH 1, " + op + ", HALT", "PUSH 1, NIL, " + op + ", HALT", "NIL, PUSH 1, " + op + ", HALT",
                "NIL, NIL, " + op + ", HALT", "PUSH 1, PUSH 1, NIL, " + op + ", HALT");
        }
    }

    private static void oneNumberIsFound() {
        Check.says("its instruction must find the types that it takes: I");
        String[] ops = {"NEW", "OUT", "START 1"};
        for (String op : ops) {
            sound("PUSH 1, " + op + ", HALT", "NIL, PUSH 1, " + op + ", HALT");
            broken("NIL, " + op + ", HALT", "PUSH 1, NIL, " + op + ", HALT");
        }
        sound("PUSH 1, ZERO 2, HALT", "NIL, PUSH 1, ZERO 3, HALT");
        broken("NIL, ZERO 2, HALT", "PUSH 1, NIL, ZERO 3, HALT");
    }

    private static void oneReferenceIsFound() {
        Check.says("its instruction must find the types that it takes: R");
        String[] ops = {"GET 0", "GET 1", "GET 2", "SEND 1"};
        for (String op : ops) {
            sound("NIL, " + op + ", HALT", "PUSH 1, NIL, " + op + ", HALT");
            broken("PUSH 1, " + op + ", HALT", "NIL, PUSH 1, " + op + ", HALT");
        }
    }

    private static void localsHaveTheirTypes() {
        Check.says("locals 0 and 1 are I, 2 and 3 are R");
        for (int local = 0; local < 4; local++) {
            boolean isNumber = local < 2;
            sound((isNumber ? "PUSH 1" : "NIL") + ", STORE " + local + ", HALT");
            broken((isNumber ? "NIL" : "PUSH 1") + ", STORE " + local + ", HALT");
            sound("LOAD " + local + (isNumber ? ", OUT, HALT" : ", GET 0, HALT"));
            broken("LOAD " + local + (isNumber ? ", GET 0, HALT" : ", OUT, HALT"));
        }
    }

    private static void eitherTypeIsFound() {
        Check.says("takes one value of either type");
        sound("PUSH 1, DUP, ADD, HALT", "NIL, DUP, SAME, HALT", "PUSH 1, POP, HALT", "NIL, POP, HALT");
        broken("PUSH 1, DUP, SAME, HALT", "NIL, DUP, ADD, HALT", "PUSH 1, POP, POP, HALT", "NIL, POP, DUP, HALT");
    }

    private static void setFindsACellUnderAValue() {
        Check.says("SET: takes R and then, on top of it, I (arg 0) or R (arg 1, 2)");
        sound("NIL, PUSH 1, SET 0, HALT", "NIL, NIL, SET 1, HALT", "NIL, NIL, SET 2, HALT");
        broken("PUSH 1, NIL, SET 0, HALT", "NIL, NIL, SET 0, HALT", "PUSH 1, PUSH 1, SET 0, HALT", "PUSH 1, SET 0, HALT");
        for (int part = 1; part <= 2; part++) {
            broken("NIL, PUSH 1, SET " + part + ", HALT", "PUSH 1, NIL, SET " + part + ", HALT",
                "PUSH 1, PUSH 1, SET " + part + ", HALT", "NIL, SET " + part + ", HALT");
        }
    }

    private static void sameFindsTwoReferences() {
        Check.says("SAME: takes R R");
        sound("NIL, NIL, SAME, HALT", "PUSH 1, NIL, NIL, SAME, HALT");
        broken("NIL, SAME, HALT", "NIL, PUSH 1, SAME, HALT", "PUSH 1, NIL, SAME, HALT", "PUSH 1, PUSH 1, SAME, HALT");
    }

    private static void whatTakesNothingFindsAnything() {
        Check.says("its instruction must find the types that it takes: none");
        String[] ops = {"HALT", "PUSH 1", "LOAD 0", "LOAD 3", "NIL", "SHARED 0", "JUMP 6", "IN", "RECEIVE", "STOP 0"};
        for (String op : ops) {
            sound("PUSH 1, NIL, PUSH 1, NIL, NIL, " + op + ", HALT");
        }
    }

    private static void moreThanSixMayNotBeLeft() {
        Check.says("may not leave more than 6 values");
        String[] puttingOneMore = {
            "PUSH 1", "LOAD 0", "LOAD 2", "DUP", "NIL", "SHARED 0", "IN", "RECEIVE", "STOP 0"};
        for (String op : puttingOneMore) {
            broken(SIX + ", " + op + ", HALT", SIX + ", " + op + ", POP, HALT", SIX_NULL + ", " + op + ", HALT");
            sound(SIX + ", POP, " + op + ", HALT", SIX_NULL + ", POP, " + op + ", HALT");
        }
    }

    private static void sixMayBeLeft() {
        Check.says("may not leave more than 6 values");
        sound(SIX + ", HALT", SIX + ", JUMP 7, HALT", SIX + ", NEW, HALT", SIX + ", START 0, HALT",
            SIX_NULL + ", GET 0, HALT", SIX_NULL + ", GET 1, HALT", SIX_NULL + ", SEND 0, HALT",
            SIX + ", ADD, DUP, HALT", SIX_NULL + ", SAME, DUP, HALT", SIX + ", ZERO 7, HALT");
    }

    private static void haltGoesNowhere() {
        Check.says("the positions after it are reached: none for HALT");
        sound("HALT", "PUSH 1, HALT", "HALT, ADD", SIX + ", HALT");
    }

    private static void jumpGoesToItsArgAlone() {
        Check.says("arg for JUMP; they must be positions of the program");
        sound("JUMP 0", "JUMP 1, HALT", "JUMP 2, ADD, HALT", "PUSH 1, JUMP 1", "JUMP 1, JUMP 0");
        broken("JUMP 1", "JUMP 23", "JUMP 2, HALT", "JUMP 1, JUMP 2", "JUMP 23, " + SIX);
    }

    private static void zeroGoesBothWays() {
        Check.says("arg and the next one for ZERO; they must be positions of the program");
        sound("PUSH 1, ZERO 2, HALT", "PUSH 1, ZERO 0, HALT", "PUSH 1, ZERO 3, HALT, HALT", "PUSH 1, ZERO 0, JUMP 0");
        broken("PUSH 1, ZERO 0", "PUSH 1, ZERO 3, HALT", "PUSH 1, ZERO 23, HALT", "PUSH 1, ZERO 2",
            "PUSH 1, ZERO 3, ADD, HALT", "PUSH 1, ZERO 3, HALT, ADD");
    }

    private static void othersGoToTheNext() {
        Check.says("the next one for others; they must be positions of the program");
        String[] texts = {
            "PUSH 1", "PUSH 1, PUSH 1, ADD", "PUSH 1, PUSH 1, SUB", "PUSH 1, PUSH 1, MUL", "PUSH 1, PUSH 1, DIV",
            "PUSH 1, PUSH 1, LESS", "LOAD 0", "LOAD 0, STORE 1", "PUSH 1, DUP", "PUSH 1, POP", "PUSH 1, NEW",
            "NIL, GET 0", "NIL, NIL, SET 1", "NIL, NIL, SAME", "NIL", "SHARED 0", "PUSH 1, OUT", "IN", "NIL, SEND 0",
            "RECEIVE", "PUSH 1, START 0", "STOP 0"};
        for (String text : texts) {
            broken(text);
            sound(text + ", HALT");
        }
    }

    private static void stacksOfOtherTypesMayNotMeet() {
        Check.says("A position must not be reached with stacks of different types");
        broken("IN, ZERO 4, PUSH 1, JUMP 5, NIL, POP, HALT", "IN, ZERO 4, NIL, JUMP 5, PUSH 1, POP, HALT",
            "IN, ZERO 5, PUSH 1, NIL, JUMP 7, NIL, PUSH 1, POP, POP, HALT",
            "IN, ZERO 4, NIL, JUMP 5, IN, HALT", "PUSH 1, DUP, ZERO 4, HALT, POP, NIL, JUMP 1");
    }

    private static void stacksOfOtherLengthsMayNotMeet() {
        Check.says("A position must not be reached with stacks of different lengths");
        broken("PUSH 1, JUMP 0", "PUSH 1, ZERO 3, PUSH 1, HALT", "PUSH 1, PUSH 1, ZERO 0, POP, JUMP 0",
            "PUSH 1, ZERO 1, HALT", "NIL, IN, ZERO 5, NIL, JUMP 5, HALT", "PUSH 1, PUSH 1, JUMP 1",
            "PUSH 1, POP, NIL, JUMP 1");
    }

    private static void likeStacksMayMeet() {
        Check.says("A position must not be reached with stacks of different types or lengths");
        sound("IN, ZERO 4, PUSH 1, JUMP 5, PUSH 2, POP, HALT", "IN, ZERO 4, NIL, JUMP 5, SHARED 0, GET 0, HALT",
            "IN, ZERO 5, PUSH 1, NIL, JUMP 7, IN, RECEIVE, POP, POP, HALT",
            "NIL, IN, ZERO 1, JUMP 1", "IN, ZERO 0, ".repeat(11) + "NIL, HALT");
    }

    private static void whatIsNotReachedIsNotLookedAt() {
        Check.says("Where a position is reached with a stack, its instruction must find the types that it takes");
        sound("HALT, POP", "HALT, JUMP 23, ZERO 23, ADD", "JUMP 2, POP, HALT, JUMP 9", "JUMP 0, PUSH 1");
        broken("JUMP 2, HALT, POP, HALT");
    }

    private static void oneInstructionIsEnough() {
        Check.says("A program can be sealed when it has an instruction");
        for (int p = 0; p < 4; p++) {
            TenantHost host = new TenantHost(8);
            Check.no("seal of no instruction", host.seal(p));
            Code.sealed(host, p, "HALT");
        }
    }

    private static void twentyFourInstructionsCanBeReached() {
        Check.says("they must be positions of the program");
        String fill = "PUSH 1, POP, ".repeat(11);
        sound(fill + "PUSH 1, HALT", fill + "JUMP 23, HALT", fill + "JUMP 23, JUMP 0", "JUMP 23, " + "POP, ".repeat(22)
            + "HALT", "JUMP 23, " + "POP, ".repeat(22) + "JUMP 0", "JUMP 23, HALT, " + "POP, ".repeat(21) + "JUMP 1");
        broken(fill + "PUSH 1, POP", fill + "PUSH 1, ZERO 0", fill + "IN, OUT", "JUMP 23, " + "HALT, ".repeat(22) + "NIL");
    }
}
