import java.util.ArrayList;
import java.util.List;

/**
 * What can be asked of a host, in one list: two hosts that answer alike have the same one. The questions are kept
 * few, as nothing is promised of an object after its 512th call.
 */
final class Answers {
    private Answers() {
    }

    /** 164 calls. */
    static List<Integer> ofTenants(TenantHost host) {
        List<Integer> answers = new ArrayList<>();
        for (int t = 0; t < 4; t++) {
            answers.addAll(List.of(host.state(t), host.steps(t), host.used(t), host.live(t), host.collections(t),
                host.ended(t), host.messages(t), host.local(t, 0), host.local(t, 1)));
            for (int k = -1; k < 16; k++) {
                answers.add(host.output(t, k));
            }
            for (int n = 0; n < 4; n++) {
                for (int path = 0; path < 1 << n; path++) {
                    answers.add(host.look(t, path, n));
                }
            }
        }
        return answers;
    }

    /** 96 calls. */
    static List<Integer> ofPrograms(TenantHost host) {
        List<Integer> answers = new ArrayList<>();
        for (int p = 0; p < 4; p++) {
            for (int i = 0; i < 24; i++) {
                answers.add(host.shape(p, i));
            }
        }
        return answers;
    }
}
