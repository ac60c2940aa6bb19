import java.io.IOException;
import java.lang.reflect.Method;
import java.lang.reflect.Modifier;
import java.nio.file.Files;
import java.nio.file.Path;
import java.util.Set;
import java.util.TreeSet;
import java.util.regex.Matcher;
import java.util.regex.Pattern;

/** README.md shows how the class is used, and what each call answers: it must be true, and leave no call out. */
public final class ReadmeTest {
    private static final Pattern NEW = Pattern.compile("TenantHost host = new TenantHost\\((-?\\d+)\\);.*");
    private static final Pattern CALL = Pattern.compile("host\\.(\\w+)\\(([-\\d, ]*)\\); *// ([-\\w]+).*");

    private final Set<String> shown = new TreeSet<>();
    private TenantHost host;

    public static void main(String[] args) throws IOException, ReflectiveOperationException {
        Check.says("README.md says how to use the class");
        ReadmeTest test = new ReadmeTest();
        for (String line : Files.readAllLines(Path.of("README.md"))) {
            test.follow(line);
        }
        test.leavesNoCallOut();
        Check.done();
    }

    private void follow(String line) throws ReflectiveOperationException {
        Matcher made = NEW.matcher(line);
        Matcher call = CALL.matcher(line);
        if (made.matches()) {
            host = new TenantHost(Integer.parseInt(made.group(1)));
        } else if (call.matches()) {
            shown.add(call.group(1));
            String answer = answer(call.group(1), call.group(2));
            Check.yes("'" + line + "', which answers " + answer + ", is told truly:", answer.equals(call.group(3)));
        } else {
            Check.no("a call whose answer is not told: " + line, line.startsWith("host."));
        }
    }

    private String answer(String name, String args) throws ReflectiveOperationException {
        String[] words = args.split(", ");
        Object[] numbers = new Object[words.length];
        Class<?>[] types = new Class<?>[words.length];
        for (int i = 0; i < words.length; i++) {
            numbers[i] = Integer.valueOf(words[i]);
            types[i] = int.class;
        }
        return String.valueOf(TenantHost.class.getMethod(name, types).invoke(host, numbers));
    }

    /** clear() alone stands only in the table, as neither example has a use for it. */
    private void leavesNoCallOut() throws IOException {
        String text = Files.readString(Path.of("README.md"));
        for (Method method : TenantHost.class.getDeclaredMethods()) {
            if (Modifier.isPublic(method.getModifiers())) {
                String name = method.getName();
                Check.yes(name + " in the table", text.contains("`" + name + "("));
                Check.yes(name + " in an example", shown.contains(name) || name.equals("clear"));
            }
        }
    }
}
