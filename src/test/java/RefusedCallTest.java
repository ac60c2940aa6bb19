import java.util.ArrayList;
import java.util.List;
import java.util.function.ToIntFunction;

/**
 * 'A call that is refused changes nothing': for each cause that the document names, a host that refused a call is
 * held against its twin that never heard it, in all that can be asked then and in all that comes after.
 */
public final class RefusedCallTest {
    private static final String[] ATTEMPTS = {"NIL, SEND 1", "PUSH 1, START 2", "STOP 1"};
    private static final int SLICES_BEFORE = 6;
    private static final int[] SLICES_AFTER = {0, 3, 9, 20, 80};

    /** What may differ from host to host: how full it is, what tenant 0 tries, and what it may. */
    private record Scene(boolean full, int attempt, int permitted) {
        TenantHost host() {
            TenantHost host = new TenantHost(3);
            for (int i = 0; i < (full ? 8 : 3); i++) {
                host.share(i + 20, i - 1, -1);
            }
            host.permit(0, 1, permitted);
            host.permit(0, 2, permitted);
            Code.launched(host, 0, full ? 24 : 4, 60, "IN, OUT, PUSH 7, NEW, STORE 2, SHARED 1, STORE 3, "
                + ATTEMPTS[attempt] + ", OUT, JUMP 0");
            Code.launched(host, 1, full ? 20 : 4, 60, full ? "PUSH 4, OUT, HALT" : "PUSH 6, NEW, STORE 2, RECEIVE, HALT");
            Code.write(host, 2, full ? "IN, OUT, ".repeat(11) + "IN, HALT" : "PUSH 1, POP, IN, OUT, JUMP 7");
            host.reserve(2, 4, 60);
            for (int i = 0; i < (full ? 8 : 2); i++) {
                host.feed(0, i + 50);
                host.feed(2, i + 60);
            }
            host.run(SLICES_BEFORE);
            return host;
        }
    }

    private record Refused(String name, int answer, ToIntFunction<TenantHost> call) {
    }

    public static void main(String[] args) {
        codeRefused();
        codeOfAFullProgramRefused();
        clearRefused();
        sealRefused();
        shareRefused();
        shareOfANinthRefused();
        reserveRefused();
        reserveOfTooManyCellsRefused();
        permitRefused();
        launchRefused();
        launchOfOneThatEndedRefused();
        feedRefused();
        feedOfANinthRefused();
        runRefused();
        questionsChangeNothing();
        Check.done();
    }

    private static int number(boolean answer) {
        return answer ? 1 : 0;
    }

    private static void changesNothing(boolean full, Refused... calls) {
        Check.says("A call that is refused changes nothing");
        for (Refused refused : calls) {
            for (int attempt = 0; attempt < ATTEMPTS.length; attempt++) {
                sameAsTwin(refused, new Scene(full, attempt, 0));
                sameAsTwin(refused, new Scene(full, attempt, 7));
            }
        }
    }

    private static void sameAsTwin(Refused refused, Scene scene) {
        TenantHost host = scene.host();
        TenantHost twin = scene.host();
        Check.due(refused.name, refused.call.applyAsInt(host), refused.answer);
        sameAnswers(refused.name + ", asked at once", host, twin);
        for (int slices : SLICES_AFTER) {
            TenantHost later = scene.host();
            TenantHost twinLater = scene.host();
            refused.call.applyAsInt(later);
            String name = refused.name + ", then " + slices + " slices";
            same(name + ", calls", future(later, slices), future(twinLater, slices));
            sameAnswers(name, later, twinLater);
        }
    }

    private static void sameAnswers(String name, TenantHost got, TenantHost want) {
        same(name + ", programs", Answers.ofPrograms(got), Answers.ofPrograms(want));
        same(name + ", tenants", Answers.ofTenants(got), Answers.ofTenants(want));
    }

    private static void same(String name, List<Integer> got, List<Integer> want) {
        Check.due(name + ": answers", got.size(), want.size());
        for (int i = 0; i < want.size(); i++) {
            Check.due(name + ": answer " + i, got.get(i), want.get(i));
        }
    }

    /** Calls that bring out what cannot be asked: inputs, permits, open programs, what is reserved and shared. */
    private static List<Integer> future(TenantHost host, int slices) {
        List<Integer> answers = new ArrayList<>();
        answers.add(host.run(1));
        String[] rest = {"IN", "OUT", "HALT"};
        for (String op : rest) {
            answers.add(host.code(2, Code.OPS.indexOf(op), 0));
        }
        answers.add(number(host.seal(2)));
        answers.add(host.code(3, 0, 0));
        answers.add(number(host.seal(3)));
        answers.add(host.share(9, 0, 2));
        answers.add(number(host.launch(2, 2)));
        answers.add(number(host.reserve(3, 24, 1)));
        answers.add(number(host.launch(3, 3)));
        for (int i = 0; i < 9; i++) {
            answers.add(number(host.feed(2, i + 80)));
        }
        answers.add(host.run(slices));
        return answers;
    }

    private static Refused code(int p, int op, int arg) {
        return new Refused("code(" + p + ", " + op + ", " + arg + ")", -1, host -> host.code(p, op, arg));
    }

    private static void codeRefused() {
        changesNothing(false, code(-1, 0, 0), code(4, 0, 0), code(0, 0, 0), code(1, 0, 0), code(2, -1, 0),
            code(2, 25, 0), code(3, -1, 0), code(3, 25, 0), code(3, 1000, 0));
        changesNothing(false, code(2, 0, 1), code(2, 0, -1), code(3, 2, 1), code(3, 7, 4), code(3, 7, -1),
            code(3, 8, 4), code(3, 12, 3), code(3, 13, -1), code(2, 16, 8), code(2, 17, 24), code(2, 18, -1),
            code(3, 21, 4), code(3, 23, -1), code(3, 24, 4));
    }

    private static void codeOfAFullProgramRefused() {
        changesNothing(true, code(2, 0, 0), code(2, 1, 5), code(2, 10, 0));
    }

    private static Refused clear(int p) {
        return new Refused("clear(" + p + ")", 0, host -> number(host.clear(p)));
    }

    private static void clearRefused() {
        changesNothing(false, clear(-1), clear(4), clear(0), clear(1), clear(Check.MIN), clear(Check.MAX));
    }

    private static Refused seal(int p) {
        return new Refused("seal(" + p + ")", 0, host -> number(host.seal(p)));
    }

    private static void sealRefused() {
        changesNothing(false, seal(-1), seal(4), seal(0), seal(1), seal(2), seal(3), seal(Check.MIN), seal(Check.MAX));
    }

    private static Refused share(int num, int left, int right) {
        return new Refused("share(" + num + ", " + left + ", " + right + ")", -1, host -> host.share(num, left, right));
    }

    private static void shareRefused() {
        changesNothing(false, share(5, 3, -1), share(5, -1, 3), share(5, 3, 3), share(5, -2, -1), share(5, -1, -2),
            share(5, 7, 0), share(5, 0, 8), share(5, Check.MIN, -1), share(5, -1, Check.MAX));
    }

    private static void shareOfANinthRefused() {
        changesNothing(true, share(5, -1, -1), share(5, 0, 7), share(5, 8, -1));
    }

    private static Refused reserve(int t, int cells, int steps) {
        return new Refused("reserve(" + t + ", " + cells + ", " + steps + ")", 0,
            host -> number(host.reserve(t, cells, steps)));
    }

    private static void reserveRefused() {
        changesNothing(false, reserve(-1, 24, 9), reserve(4, 24, 9), reserve(3, 0, 9), reserve(3, -1, 9),
            reserve(3, 25, 9), reserve(3, 1, 0), reserve(3, 1, -1), reserve(3, 24, 3001), reserve(3, Check.MAX, 9),
            reserve(3, Check.MIN, 9), reserve(0, 1, 1), reserve(1, 24, 3000), reserve(2, 5, 70));
    }

    private static void reserveOfTooManyCellsRefused() {
        changesNothing(true, reserve(3, 1, 9), reserve(3, 24, 9));
    }

    private static Refused permit(int a, int b, int what) {
        return new Refused("permit(" + a + ", " + b + ", " + what + ")", 0, host -> number(host.permit(a, b, what)));
    }

    private static void permitRefused() {
        changesNothing(false, permit(-1, 1, 7), permit(4, 1, 7), permit(0, -1, 7), permit(0, 4, 7), permit(0, 1, -1),
            permit(0, 1, 8), permit(0, 2, -1), permit(0, 2, 8), permit(0, 1, 15), permit(0, 1, Check.MIN),
            permit(0, 1, Check.MAX), permit(-1, 1, 0), permit(4, 2, 0));
    }

    private static Refused launch(int t, int p) {
        return new Refused("launch(" + t + ", " + p + ")", 0, host -> number(host.launch(t, p)));
    }

    private static void launchRefused() {
        // Tenant 2 may have been started by tenant 0, and is refused all the more then.
        changesNothing(false, launch(-1, 0), launch(4, 0), launch(2, -1), launch(2, 4), launch(2, 2), launch(2, 3),
            launch(3, 0), launch(0, 0), launch(0, 1), launch(1, 0), launch(1, 1));
    }

    private static void launchOfOneThatEndedRefused() {
        changesNothing(true, launch(1, 0), launch(1, 1));
    }

    private static Refused feed(int t, int v) {
        return new Refused("feed(" + t + ", " + v + ")", 0, host -> number(host.feed(t, v)));
    }

    private static void feedRefused() {
        changesNothing(false, feed(-1, 5), feed(4, 5), feed(Check.MIN, 5), feed(Check.MAX, 5));
    }

    private static void feedOfANinthRefused() {
        changesNothing(true, feed(2, 5), feed(2, 60));
    }

    private static Refused run(int n) {
        return new Refused("run(" + n + ")", SLICES_BEFORE, host -> host.run(n));
    }

    private static void runRefused() {
        changesNothing(false, run(-1), run(201), run(-200), run(Check.MIN), run(Check.MAX));
    }

    private static void questionsChangeNothing() {
        Check.says("Nothing is promised beyond the answers and state changes described above");
        for (int attempt = 0; attempt < ATTEMPTS.length; attempt++) {
            for (int slices : SLICES_AFTER) {
                TenantHost asked = new Scene(false, attempt, 7).host();
                TenantHost silent = new Scene(false, attempt, 7).host();
                Answers.ofTenants(asked);
                asked.shape(0, 0);
                asked.run(slices);
                silent.run(slices);
                sameAnswers("asked and not asked", asked, silent);
            }
        }
    }
}
