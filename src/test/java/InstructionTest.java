/** What the instructions 0 to 20 do in their tenant; SEND and RECEIVE are MessageTest's, the rest OtherTenantTest's. */
public final class InstructionTest {
    private static final int MIN = Check.MIN;
    private static final int MAX = Check.MAX;

    public static void main(String[] args) {
        halt();
        push();
        addWraps();
        subWraps();
        mulWraps();
        divGoesTowardsZero();
        divWraps();
        divByZero();
        lessLooksAtSigns();
        loadPutsLocals();
        storeKeepsLocals();
        dupAndPop();
        stackOfSix();
        newMakesACell();
        newWithoutRoom();
        getTakesParts();
        getOfNull();
        getOfASharedCell();
        setChangesOnePart();
        setOfNull();
        setOfASharedCell();
        setOfNullWithASharedCellOnTop();
        sameCells();
        sameNulls();
        otherCells();
        sharedCells();
        noSuchSharedCell();
        jumps();
        zeroOnlyOfZero();
        outSixteenTimes();
        outOnceTooOften();
        inTakesTheFirst();
        inWithoutInputs();
        Check.done();
    }

    /** Runs the program and looks at its outputs; it must end as the state says. */
    private static TenantHost ends(int state, String text, int... outputs) {
        TenantHost host = Code.ran(text);
        Check.due("state after " + text, host.state(0), state);
        Check.due("outputs of " + text, host.output(0, -1), outputs.length);
        for (int k = 0; k < outputs.length; k++) {
            Check.due("output " + k + " of " + text, host.output(0, k), outputs[k]);
        }
        return host;
    }

    private static void reckons(int x, int y, String op, int result) {
        ends(3, "PUSH " + x + ", PUSH " + y + ", " + op + ", OUT, HALT", result);
    }

    private static void halt() {
        Check.says("HALT: the tenant ends, DONE");
        Check.due("steps", ends(3, "HALT").steps(0), 1);
        Check.due("steps", ends(3, "PUSH 1, OUT, HALT, PUSH 2, OUT, HALT", 1).steps(0), 3);
    }

    private static void push() {
        Check.says("PUSH: puts the arg (any int)");
        ends(3, "PUSH " + MIN + ", OUT, PUSH " + MAX + ", OUT, PUSH 0, OUT, PUSH -1, OUT, HALT", MIN, MAX, 0, -1);
    }

    private static void addWraps() {
        Check.says("ADD: put x + y (ints that wrap)");
        reckons(7, 3, "ADD", 10);
        reckons(MAX, 1, "ADD", MIN);
        reckons(MIN, -1, "ADD", MAX);
        reckons(MIN, MIN, "ADD", 0);
        reckons(MAX, MAX, "ADD", -2);
    }

    private static void subWraps() {
        Check.says("SUB: put x - y (y is the upper one; ints that wrap)");
        reckons(7, 3, "SUB", 4);
        reckons(3, 7, "SUB", -4);
        reckons(MIN, 1, "SUB", MAX);
        reckons(MAX, -1, "SUB", MIN);
        reckons(0, MIN, "SUB", MIN);
    }

    private static void mulWraps() {
        Check.says("MUL: put x * y (ints that wrap)");
        reckons(7, -3, "MUL", -21);
        reckons(MAX, MAX, "MUL", 1);
        reckons(65536, 65536, "MUL", 0);
        reckons(MIN, -1, "MUL", MIN);
        reckons(MAX, 2, "MUL", -2);
        reckons(MIN, 0, "MUL", 0);
    }

    private static void divGoesTowardsZero() {
        Check.says("DIV: takes I I, puts x / y as Java does");
        reckons(7, 2, "DIV", 3);
        reckons(-7, 2, "DIV", -3);
        reckons(7, -2, "DIV", -3);
        reckons(-7, -2, "DIV", 3);
        reckons(2, 7, "DIV", 0);
        reckons(0, 5, "DIV", 0);
        reckons(-1, MAX, "DIV", 0);
    }

    private static void divWraps() {
        Check.says("DIV: takes I I, puts x / y as Java does");
        reckons(MIN, -1, "DIV", MIN);
        reckons(MIN, 1, "DIV", MIN);
        reckons(MAX, -1, "DIV", -MAX);
        reckons(MIN, MIN, "DIV", 1);
        reckons(MAX, MIN, "DIV", 0);
    }

    private static void divByZero() {
        Check.says("DIVIDE when y is 0");
        int[] dividends = {1, 0, -1, MIN, MAX};
        for (int x : dividends) {
            Check.due("steps", ends(6, "PUSH " + x + ", PUSH 0, DIV, OUT, HALT").steps(0), 3);
        }
    }

    private static void lessLooksAtSigns() {
        Check.says("LESS: takes I I, puts 1 when x < y, else 0");
        reckons(3, 7, "LESS", 1);
        reckons(7, 3, "LESS", 0);
        reckons(7, 7, "LESS", 0);
        reckons(-1, 0, "LESS", 1);
        reckons(0, -1, "LESS", 0);
        reckons(MIN, MAX, "LESS", 1);
        reckons(MAX, MIN, "LESS", 0);
        reckons(MIN, MIN, "LESS", 0);
        reckons(MIN, 1, "LESS", 1);
    }

    private static void loadPutsLocals() {
        Check.says("LOAD: puts LOCAL arg");
        ends(3, "LOAD 0, OUT, LOAD 1, OUT, LOAD 2, NIL, SAME, OUT, LOAD 3, NIL, SAME, OUT, HALT", 0, 0, 1, 1);
        ends(3, "PUSH 5, STORE 0, LOAD 0, OUT, LOAD 0, OUT, HALT", 5, 5);
    }

    private static void storeKeepsLocals() {
        Check.says("STORE: takes a value of that local's type, and the local is it");
        ends(3, "PUSH 5, STORE 0, PUSH 6, STORE 1, LOAD 1, OUT, LOAD 0, OUT, HALT", 6, 5);
        ends(3, "PUSH 5, STORE 0, PUSH 6, STORE 0, LOAD 0, OUT, LOAD 1, OUT, HALT", 6, 0);
        ends(3, "PUSH 1, NEW, STORE 2, PUSH 2, NEW, STORE 3, LOAD 2, GET 0, OUT, LOAD 3, GET 0, OUT, HALT", 1, 2);
        ends(3, "PUSH 1, NEW, STORE 3, LOAD 2, NIL, SAME, OUT, NIL, STORE 3, LOAD 3, NIL, SAME, OUT, HALT", 1, 1);
    }

    private static void dupAndPop() {
        Check.says("DUP: takes one value of either type, puts it twice. POP: takes one value of either type");
        ends(3, "PUSH 4, DUP, OUT, OUT, PUSH 5, NEW, DUP, SAME, OUT, HALT", 4, 4, 1);
        ends(3, "PUSH 1, PUSH 2, POP, OUT, PUSH 3, NIL, POP, OUT, HALT", 1, 3);
    }

    private static void stackOfSix() {
        Check.says("may not leave more than 6 values");
        ends(3, "PUSH 1, PUSH 2, PUSH 3, PUSH 4, PUSH 5, PUSH 6, OUT, OUT, OUT, OUT, OUT, OUT, HALT", 6, 5, 4, 3, 2, 1);
        ends(3, "PUSH 1, NIL, PUSH 3, NIL, PUSH 5, DUP, OUT, OUT, POP, OUT, POP, OUT, HALT", 5, 5, 3, 1);
    }

    private static void newMakesACell() {
        Check.says("NEW: takes I, puts R: a new cell of the tenant with this NUM, its LEFT and RIGHT null");
        ends(3, "PUSH 9, NEW, STORE 2, LOAD 2, GET 0, OUT, LOAD 2, GET 1, NIL, SAME, OUT, "
            + "LOAD 2, GET 2, NIL, SAME, OUT, HALT", 9, 1, 1);
        ends(3, "PUSH " + MIN + ", NEW, GET 0, OUT, PUSH " + MAX + ", NEW, GET 0, OUT, HALT", MIN, MAX);
    }

    private static void newWithoutRoom() {
        Check.says("MEMORY when there is no room");
        TenantHost full = ends(9, "PUSH 1, NEW, DUP, LOAD 2, SET 1, STORE 2, JUMP 0");
        Check.due("steps to MEMORY", full.steps(0), 4 * 7 + 2);
        Check.due("the collection counts", full.collections(0), 1);
    }

    private static void getTakesParts() {
        Check.says("GET: takes R, puts I (arg 0: its num) or R (arg 1: its left, 2: its right)");
        ends(3, "PUSH 9, NEW, STORE 2, LOAD 2, PUSH 7, NEW, SET 1, LOAD 2, GET 1, GET 0, OUT, "
            + "LOAD 2, GET 2, NIL, SAME, OUT, HALT", 7, 1);
        ends(3, "PUSH 9, NEW, STORE 2, LOAD 2, PUSH 7, NEW, SET 2, LOAD 2, GET 2, GET 0, OUT, "
            + "LOAD 2, GET 1, NIL, SAME, OUT, HALT", 7, 1);
    }

    private static void getOfNull() {
        Check.says("GET: NULL when it is null");
        for (int part = 0; part <= 2; part++) {
            Check.due("steps", ends(7, "NIL, GET " + part + ", POP, HALT").steps(0), 2);
        }
        ends(7, "LOAD 2, GET 0, OUT, HALT");
        ends(7, "SHARED 7, GET 0, OUT, HALT");
        ends(7, "PUSH 1, NEW, GET 1, GET 2, POP, HALT");
    }

    private static void getOfASharedCell() {
        Check.says("SHARED cells (at most 8) never change");
        TenantHost host = new TenantHost(8);
        host.share(5, -1, -1);
        host.share(6, 0, -1);
        Code.launched(host, 0, 1, 50, "SHARED 1, GET 0, OUT, SHARED 1, GET 1, GET 0, OUT, SHARED 1, GET 2, GET 0, OUT, HALT");
        host.run(8);
        Check.due("num", host.output(0, 0), 6);
        Check.due("num of the left", host.output(0, 1), 5);
        Check.due("the right is null", host.state(0), 7);
    }

    private static void setChangesOnePart() {
        Check.says("SET: .. which becomes that part of the cell");
        ends(3, "PUSH 9, NEW, STORE 2, LOAD 2, PUSH 8, SET 0, LOAD 2, GET 0, OUT, LOAD 2, GET 1, NIL, SAME, OUT, HALT",
            8, 1);
        ends(3, "PUSH 9, NEW, STORE 2, LOAD 2, LOAD 2, SET 1, LOAD 2, GET 1, GET 1, LOAD 2, SAME, OUT, "
            + "LOAD 2, NIL, SET 1, LOAD 2, GET 1, NIL, SAME, OUT, HALT", 1, 1);
        ends(3, "PUSH 9, NEW, STORE 2, LOAD 2, LOAD 2, SET 2, LOAD 2, GET 0, OUT, LOAD 2, GET 1, NIL, SAME, OUT, HALT",
            9, 1);
    }

    private static void setOfNull() {
        Check.says("NULL when the cell is null");
        Check.due("steps to NULL by SET 0", ends(7, "NIL, PUSH 1, SET 0, HALT").steps(0), 3);
        Check.due("steps to NULL by SET 1", ends(7, "NIL, NIL, SET 1, HALT").steps(0), 3);
        Check.due("steps to NULL by SET 2", ends(7, "NIL, NIL, SET 2, HALT").steps(0), 3);
        ends(7, "NIL, PUSH 1, NEW, SET 1, HALT");
        ends(3, "PUSH 1, NEW, NIL, SET 1, HALT");
    }

    private static void setOfASharedCell() {
        Check.says("BARRIER when it is a shared cell");
        for (int number = 0; number < 8; number++) {
            for (int part = 0; part < 3; part++) {
                barrier(number, part);
            }
        }
    }

    private static void barrier(int number, int part) {
        TenantHost host = new TenantHost(8);
        for (int i = 0; i < 8; i++) {
            host.share(60 + i, i - 1, i - 1);
        }
        Code.launched(host, 0, 1, 50, "SHARED " + number + (part == 0 ? ", PUSH 1" : ", NIL") + ", SET " + part + ", HALT");
        Code.launched(host, 1, 1, 50, "SHARED " + number + ", STORE 2, RECEIVE, HALT");
        host.run(8);
        Check.due("barrier of shared cell " + number, host.state(0), 8);
        Check.due("steps", host.steps(0), 3);
        Check.due("num", host.look(1, 0, 0), 60 + number);
        Check.due("left", host.look(1, 0, 1), number == 0 ? 0 : 59 + number);
        Check.due("right", host.look(1, 1, 1), number == 0 ? 0 : 59 + number);
    }

    private static void setOfNullWithASharedCellOnTop() {
        Check.says("NULL when the cell is null; BARRIER when it is a shared cell");
        for (int part = 1; part <= 2; part++) {
            TenantHost host = new TenantHost(8);
            host.share(5, -1, -1);
            Code.launched(host, 0, 1, 50, "NIL, SHARED 0, SET " + part + ", HALT");
            Code.launched(host, 1, 1, 50, "PUSH 1, NEW, DUP, STORE 2, SHARED 0, SET " + part + ", RECEIVE, HALT");
            Code.launched(host, 2, 1, 50, "SHARED 0, PUSH 1, NEW, SET " + part + ", HALT");
            host.run(4);
            Check.due("the cell is null", host.state(0), 7);
            Check.due("a shared cell may be a part", host.look(1, part - 1, 1), 5);
            Check.due("a part of a shared cell", host.state(2), 8);
        }
    }

    private static void sameCells() {
        Check.says("SAME: takes R R, puts 1 when both are the same cell");
        ends(3, "PUSH 1, NEW, DUP, SAME, OUT, PUSH 1, NEW, STORE 2, LOAD 2, LOAD 2, SAME, OUT, HALT", 1, 1);
    }

    private static void sameNulls() {
        Check.says("or both null");
        ends(3, "NIL, NIL, SAME, OUT, NIL, LOAD 3, SAME, OUT, PUSH 1, NEW, GET 1, NIL, SAME, OUT, HALT", 1, 1, 1);
    }

    private static void otherCells() {
        Check.says("SAME: .. else 0");
        ends(3, "PUSH 1, NEW, PUSH 1, NEW, SAME, OUT, HALT", 0);
        ends(3, "PUSH 1, NEW, NIL, SAME, OUT, NIL, PUSH 1, NEW, SAME, OUT, HALT", 0, 0);
        TenantHost host = new TenantHost(8);
        host.share(1, -1, -1);
        host.share(1, -1, -1);
        Code.launched(host, 0, 1, 50, "SHARED 0, SHARED 1, SAME, OUT, SHARED 0, PUSH 1, NEW, SAME, OUT, SHARED 1, "
            + "SHARED 1, SAME, OUT, NIL, SHARED 0, SAME, OUT, HALT");
        host.run(12);
        int[] outputs = {0, 0, 1, 0};
        for (int k = 0; k < 4; k++) {
            Check.due("output " + k, host.output(0, k), outputs[k]);
        }
    }

    private static void sharedCells() {
        Check.says("SHARED: puts R, the shared cell arg (0 .. 7)");
        TenantHost host = new TenantHost(8);
        StringBuilder text = new StringBuilder();
        for (int number = 0; number < 7; number++) {
            host.share(number + 10, -1, -1);
            text.append("SHARED ").append(number).append(", GET 0, OUT, ");
        }
        host.share(17, -1, -1);
        Code.launched(host, 0, 1, 50, text + "HALT");
        Code.launched(host, 1, 1, 50, "SHARED 7, GET 0, OUT, HALT");
        host.run(16);
        for (int number = 0; number < 7; number++) {
            Check.due("num of shared cell " + number, host.output(0, number), number + 10);
        }
        Check.due("num of shared cell 7", host.output(1, 0), 17);
    }

    private static void noSuchSharedCell() {
        Check.says("or null when there is none");
        for (int count = 0; count < 8; count++) {
            TenantHost host = new TenantHost(8);
            for (int i = 0; i < count; i++) {
                host.share(4, -1, -1);
            }
            Code.launched(host, 0, 1, 50, "SHARED " + count + ", NIL, SAME, OUT, SHARED " + count + ", GET 0, OUT, HALT");
            Code.launched(host, 1, 1, 50, "SHARED " + Math.max(0, count - 1) + ", NIL, SAME, OUT, HALT");
            Check.due("run", host.run(0), 0);
            host.run(2);
            Check.due("shared cell " + count + " is null", host.output(0, 0), 1);
            Check.due("and has no num", host.state(0), 7);
            Check.due("the one before is not", host.output(1, 0), count == 0 ? 1 : 0);
        }
        TenantHost later = new TenantHost(8);
        Code.launched(later, 0, 1, 50, "SHARED 0, NIL, SAME, OUT, JUMP 0");
        later.run(1);
        Check.due("none yet", later.output(0, 0), 1);
        later.share(44, -1, -1);
        later.run(8);
        Check.due("shared after the launch", later.output(0, 3), 0);
    }

    private static void jumps() {
        Check.says("JUMP: goes on at position arg (0 .. 23)");
        ends(3, "JUMP 3, OUT, HALT, PUSH 4, JUMP 1", 4);
        ends(3, "JUMP 23, PUSH 8, OUT, HALT, " + "POP, ".repeat(19) + "JUMP 1", 8);
        Check.due("steps of one that jumps to itself", ends(5, "JUMP 0").steps(0), 60);
    }

    private static void zeroOnlyOfZero() {
        Check.says("ZERO: takes I, goes on at position arg (0 .. 23) when it is 0");
        ends(3, "PUSH 0, ZERO 4, PUSH 1, OUT, PUSH 2, OUT, HALT", 2);
        int[] others = {1, -1, 5, MIN, MAX, 256, 65536};
        for (int number : others) {
            ends(3, "PUSH " + number + ", ZERO 4, PUSH 1, OUT, PUSH 2, OUT, HALT", 1, 2);
        }
        ends(3, "PUSH 0, ZERO 23, PUSH 1, OUT, HALT, PUSH 2, OUT, HALT, " + "POP, ".repeat(15) + "JUMP 5", 2);
        ends(3, "PUSH 2, NEW, STORE 2, LOAD 2, GET 0, ZERO 13, LOAD 2, LOAD 2, GET 0, PUSH 1, SUB, SET 0, JUMP 3, "
            + "LOAD 2, GET 0, OUT, HALT", 0);
    }

    private static void outSixteenTimes() {
        Check.says("OUT: takes I, which is the tenant's next output");
        TenantHost host = new TenantHost(8);
        Code.launched(host, 0, 1, 3000, "LOAD 0, OUT, LOAD 0, PUSH 1, ADD, STORE 0, LOAD 0, PUSH 16, SUB, ZERO 11, "
            + "JUMP 0, RECEIVE, HALT");
        host.run(200);
        Check.due("sixteen outputs do not end it", host.state(0), 2);
        Check.due("count", host.output(0, -1), 16);
        for (int k = 0; k < 16; k++) {
            Check.due("output " + k, host.output(0, k), k);
        }
    }

    private static void outOnceTooOften() {
        Check.says("OUTPUT when it has 16");
        TenantHost out = ends(11, "PUSH 3, OUT, JUMP 0", 3, 3, 3, 3, 3, 3, 3, 3, 3, 3, 3, 3, 3, 3, 3, 3);
        Check.due("steps to OUTPUT", out.steps(0), 16 * 3 + 2);
        Check.due("no output 16", out.output(0, 16), 0);
    }

    private static void inTakesTheFirst() {
        Check.says("IN: puts I, the first of the inputs that were fed and not taken (it is taken by that)");
        TenantHost host = new TenantHost(8);
        for (int i = 1; i <= 8; i++) {
            host.feed(0, i);
        }
        Code.launched(host, 0, 1, 300, "IN, DUP, OUT, ZERO 5, JUMP 0, HALT");
        host.run(40);
        for (int k = 0; k < 9; k++) {
            Check.due("output " + k, host.output(0, k), k < 8 ? k + 1 : 0);
        }
        Check.due("outputs", host.output(0, -1), 9);
    }

    private static void inWithoutInputs() {
        Check.says("0 when there is none");
        ends(3, "IN, OUT, IN, OUT, HALT", 0, 0);
        TenantHost host = new TenantHost(8);
        host.feed(1, 5);
        Code.launched(host, 0, 1, 50, "IN, OUT, HALT");
        host.run(1);
        Check.due("what another was fed", host.output(0, 0), 0);
    }
}
