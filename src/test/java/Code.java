import java.util.List;

/** Writes programs for the tests from texts such as "PUSH 3, STORE 0, HALT". */
final class Code {
    static final List<String> OPS = List.of(
        "HALT", "PUSH", "ADD", "SUB", "MUL", "DIV", "LESS", "LOAD", "STORE", "DUP", "POP", "NEW", "GET", "SET",
        "SAME", "NIL", "SHARED", "JUMP", "ZERO", "OUT", "IN", "SEND", "RECEIVE", "START", "STOP");

    private Code() {
    }

    /** Puts the instructions behind those of program p; each must be taken. */
    static void write(TenantHost host, int p, String text) {
        for (String instruction : text.split(",")) {
            String[] words = instruction.trim().split(" ");
            int arg = words.length > 1 ? Integer.parseInt(words[1]) : 0;
            int op = OPS.indexOf(words[0]);
            Check.yes("code of " + instruction + " in " + text, host.code(p, op, arg) >= 0);
        }
    }

    static boolean canSeal(String text) {
        TenantHost host = new TenantHost(8);
        write(host, 0, text);
        return host.seal(0);
    }

    /** Writes and seals program p. */
    static void sealed(TenantHost host, int p, String text) {
        write(host, p, text);
        Check.yes("seal of " + text, host.seal(p));
    }

    /** Writes, seals, reserves and launches: tenant t runs program t. */
    static void launched(TenantHost host, int t, int cells, int steps, String text) {
        sealed(host, t, text);
        Check.yes("reserve for " + text, host.reserve(t, cells, steps));
        Check.yes("launch of " + text, host.launch(t, t));
    }

    /** A host of slices of 8 whose tenant 0 has run the program for 100 slices, in 4 cells and 60 steps. */
    static TenantHost ran(String text) {
        TenantHost host = new TenantHost(8);
        launched(host, 0, 4, 60, text);
        host.run(100);
        return host;
    }
}
