/** Promises 4 (seal) and 5 (shape), with the rules of SEALING. */
public final class SealTest {
    private static final String SIX = "PUSH 1, PUSH 2, PUSH 3, PUSH 4, PUSH 5, PUSH 6";

    public static void main(String[] args) {
        everyOpFindsItsTypes();
        everyOpRefusesOtherTypes();
        atMostSixValuesAreLeft();
        positionsAfterAreOfTheProgram();
        stacksMayNotDiffer();
        onlyWhatIsReachedIsLookedAt();
        sealRefusesWrongInputs();
        refusedStaysOpen();
        shapesTellTypesFromTheLowest();
        shapesOfEveryOp();
        shapeRefusesWrongInputs();
        Check.done();
    }

    private static void sound(String text) {
        Check.yes("seal of " + text, Code.canSeal(text));
    }

    private static void broken(String text) {
        Check.no("seal of " + text, Code.canSeal(text));
    }

    private static void everyOpFindsItsTypes() {
        String[] texts = {
            "HALT", "PUSH 1, HALT", "PUSH 1, PUSH 2, ADD, HALT", "LOAD 0, STORE 1, HALT", "LOAD 3, STORE 2, HALT",
            "LOAD 1, STORE 0, HALT", "LOAD 2, STORE 3, HALT", "NIL, DUP, SAME, POP, HALT", "PUSH 1, DUP, ADD, HALT",
            "NIL, POP, HALT", "PUSH 1, NEW, GET 0, NEW, GET 1, GET 2, STORE 2, HALT",
            "NIL, PUSH 1, SET 0, NIL, NIL, SET 1, NIL, NIL, SET 2, HALT", "SHARED 0, GET 0, POP, HALT",
            "NIL, SEND 0, OUT, HALT", "RECEIVE, GET 0, OUT, HALT", "PUSH 1, START 0, OUT, HALT", "STOP 0, OUT, HALT",
            "IN, OUT, HALT", "IN, ZERO 2, HALT", "JUMP 0"};
        for (String text : texts) {
            sound(text);
        }
    }

    private static void everyOpRefusesOtherTypes() {
        String[] takingTwoNumbers = {"ADD", "SUB", "MUL", "DIV", "LESS"};
        for (String op : takingTwoNumbers) {
            broken(op + ", HALT");
            broken("PUSH 1, " + op + ", HALT");
            broken("PUSH 1, NIL, " + op + ", HALT");
            broken("NIL, PUSH 1, " + op + ", HALT");
            broken("NIL, NIL, " + op + ", HALT");
            sound("NIL, PUSH 1, PUSH 1, " + op + ", HALT");
        }
        String[] takingANumber = {"STORE 0", "STORE 1", "NEW", "ZERO 0", "OUT", "START 1"};
        for (String op : takingANumber) {
            broken(op + ", HALT");
            broken("NIL, " + op + ", HALT");
        }
        String[] takingAReference = {"STORE 2", "STORE 3", "GET 0", "GET 1", "GET 2", "SEND 1"};
        for (String op : takingAReference) {
            broken(op + ", HALT");
            broken("PUSH 1, " + op + ", HALT");
        }
        String[] others = {
            "DUP, HALT", "POP, HALT", "NIL, SAME, HALT", "NIL, PUSH 1, SAME, HALT", "PUSH 1, NIL, SAME, HALT",
            "PUSH 1, SET 0, HALT", "NIL, SET 1, HALT", "NIL, NIL, SET 0, HALT", "PUSH 1, NIL, SET 0, HALT",
            "NIL, PUSH 1, SET 1, HALT", "NIL, PUSH 1, SET 2, HALT", "PUSH 1, NIL, SET 1, HALT",
            "PUSH 1, NIL, SET 2, HALT", "PUSH 1, PUSH 1, SET 0, HALT"};
        for (String text : others) {
            broken(text);
        }
    }

    private static void atMostSixValuesAreLeft() {
        sound(SIX + ", HALT");
        sound(SIX + ", ADD, PUSH 1, HALT");
        sound(SIX + ", NEW, HALT");
        sound("NIL, NIL, NIL, NIL, NIL, NIL, HALT");
        String[] puttingOne = {
            "PUSH 1", "LOAD 0", "LOAD 2", "DUP", "NIL", "SHARED 0", "IN", "RECEIVE", "STOP 0"};
        for (String op : puttingOne) {
            broken(SIX + ", " + op + ", HALT");
            broken(SIX + ", " + op + ", POP, HALT");
            sound(SIX + ", POP, " + op + ", HALT");
        }
        broken("NIL, NIL, NIL, NIL, NIL, NIL, NIL, HALT");
    }

    private static void positionsAfterAreOfTheProgram() {
        broken("PUSH 1");
        broken("JUMP 1");
        broken("JUMP 23");
        broken("PUSH 1, ZERO 0");
        broken("PUSH 1, ZERO 3, HALT");
        sound("PUSH 1, ZERO 2, HALT");
        sound("JUMP 1, HALT");
        sound("PUSH 1, POP, JUMP 0");
        StringBuilder full = new StringBuilder("JUMP 23");
        for (int i = 1; i < 24; i++) {
            full.append(i < 23 ? ", POP" : ", HALT");
        }
        sound(full.toString());
        sound("PUSH 1, POP, ".repeat(11) + "PUSH 1, HALT");
        broken("PUSH 1, POP, ".repeat(11) + "PUSH 1, ZERO 0");
        sound("IN, ZERO 0, ".repeat(11) + "NIL, HALT");
    }

    private static void stacksMayNotDiffer() {
        broken("PUSH 1, JUMP 0");
        broken("PUSH 1, ZERO 3, PUSH 1, HALT");
        broken("IN, ZERO 4, PUSH 1, JUMP 5, NIL, POP, HALT");
        sound("IN, ZERO 4, PUSH 1, JUMP 5, PUSH 2, POP, HALT");
        broken("IN, ZERO 5, PUSH 1, NIL, JUMP 7, NIL, PUSH 1, POP, POP, HALT");
        sound("PUSH 1, ZERO 0, JUMP 0");
        broken("PUSH 1, PUSH 1, ZERO 0, POP, JUMP 0");
    }

    private static void onlyWhatIsReachedIsLookedAt() {
        sound("HALT, POP");
        sound("HALT, JUMP 23, ZERO 23, ADD");
        sound("JUMP 2, POP, HALT, JUMP 9");
        broken("JUMP 2, HALT, POP, HALT");
    }

    private static void sealRefusesWrongInputs() {
        TenantHost host = new TenantHost(8);
        int[] noPrograms = {-1, 4, Integer.MIN_VALUE, Integer.MAX_VALUE};
        for (int p : noPrograms) {
            Check.no("seal of program " + p, host.seal(p));
        }
        Check.no("seal of an empty program", host.seal(0));
        Code.sealed(host, 0, "HALT");
        Check.no("seal of a sealed program", host.seal(0));
        Check.due("it is sealed still", host.shape(0, 0), 1);
    }

    private static void refusedStaysOpen() {
        TenantHost host = new TenantHost(8);
        Code.write(host, 2, "PUSH 1, ZERO 4, PUSH 7, OUT");
        Check.no("seal", host.seal(2));
        Check.due("no shape", host.shape(2, 0), -1);
        Check.due("it goes on where it was", host.code(2, 0, 0), 4);
        Check.yes("seal of the mended one", host.seal(2));
        Check.due("shape", host.shape(2, 4), 1);
        Code.write(host, 1, "PUSH 1, ADD, NIL, HALT");
        Check.no("seal", host.seal(1));
        Check.yes("clear", host.clear(1));
        Code.sealed(host, 1, "HALT, NIL");
        Check.due("nothing is left of the one that was refused", host.shape(1, 1), 0);
    }

    private static void shapesTellTypesFromTheLowest() {
        TenantHost host = new TenantHost(8);
        Code.sealed(host, 0, "PUSH 1, NIL, PUSH 2, NIL, NIL, PUSH 3, HALT, HALT");
        int[] shapes = {1, 2, 5, 10, 21, 43, 86, 0};
        for (int i = 0; i < shapes.length; i++) {
            Check.due("shape of position " + i, host.shape(0, i), shapes[i]);
        }
        Code.sealed(host, 1, "NIL, NIL, NIL, NIL, NIL, NIL, HALT");
        Check.due("six references", host.shape(1, 6), 127);
        Code.sealed(host, 2, "IN, ZERO 5, NIL, JUMP 7, POP, NIL, JUMP 7, SEND 1, HALT");
        int[] joined = {1, 2, 1, 3, 0, 1, 3, 3, 2};
        for (int i = 0; i < joined.length; i++) {
            Check.due("shape of position " + i + " where two ways meet", host.shape(2, i), joined[i]);
        }
    }

    private static void shapesOfEveryOp() {
        shapeAfter("PUSH 1", 2);
        shapeAfter("PUSH 1, PUSH 1, ADD", 2);
        shapeAfter("PUSH 1, PUSH 1, SUB", 2);
        shapeAfter("PUSH 1, PUSH 1, MUL", 2);
        shapeAfter("PUSH 1, PUSH 1, DIV", 2);
        shapeAfter("PUSH 1, PUSH 1, LESS", 2);
        shapeAfter("LOAD 0", 2);
        shapeAfter("LOAD 1", 2);
        shapeAfter("LOAD 2", 3);
        shapeAfter("LOAD 3", 3);
        shapeAfter("PUSH 1, STORE 1", 1);
        shapeAfter("NIL, STORE 2", 1);
        shapeAfter("PUSH 1, DUP", 4);
        shapeAfter("NIL, DUP", 7);
        shapeAfter("PUSH 1, NIL, POP", 2);
        shapeAfter("NIL, PUSH 1, POP", 3);
        shapeAfter("PUSH 1, NEW", 3);
        shapeAfter("NIL, GET 0", 2);
        shapeAfter("NIL, GET 1", 3);
        shapeAfter("NIL, GET 2", 3);
        shapeAfter("NIL, PUSH 1, SET 0", 1);
        shapeAfter("NIL, NIL, SET 1", 1);
        shapeAfter("NIL, NIL, SET 2", 1);
        shapeAfter("NIL, NIL, SAME", 2);
        shapeAfter("SHARED 7", 3);
        shapeAfter("IN", 2);
        shapeAfter("IN, OUT", 1);
        shapeAfter("IN, ZERO 2", 1);
        shapeAfter("NIL, SEND 3", 2);
        shapeAfter("RECEIVE", 3);
        shapeAfter("PUSH 1, START 3", 2);
        shapeAfter("STOP 3", 2);
    }

    private static void shapeAfter(String text, int shape) {
        TenantHost host = new TenantHost(8);
        Code.sealed(host, 0, text + ", HALT");
        Check.due("shape after " + text, host.shape(0, text.split(",").length), shape);
    }

    private static void shapeRefusesWrongInputs() {
        TenantHost host = new TenantHost(8);
        Code.sealed(host, 0, "PUSH 1, HALT, HALT");
        Code.write(host, 1, "PUSH 1, HALT");
        Check.due("shape of a position not reached", host.shape(0, 2), 0);
        Check.due("shape of a position behind", host.shape(0, 3), -1);
        Check.due("shape of position 24", host.shape(0, 24), -1);
        Check.due("shape of position -1", host.shape(0, -1), -1);
        Check.due("shape of an open program", host.shape(1, 0), -1);
        int[] noPrograms = {-1, 4, Integer.MIN_VALUE, Integer.MAX_VALUE};
        for (int p : noPrograms) {
            Check.due("shape of program " + p, host.shape(p, 0), -1);
            Check.due("shape of position " + p, host.shape(0, p == 4 ? 5 : p), -1);
        }
    }
}
