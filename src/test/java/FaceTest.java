import java.lang.reflect.Constructor;
import java.lang.reflect.Field;
import java.lang.reflect.Method;
import java.lang.reflect.Modifier;
import java.util.Set;
import java.util.TreeSet;

/** The public face: just the constructor and the twenty methods of the document, and nothing else to be seen. */
public final class FaceTest {
    private static final Set<String> FACE = Set.of(
        "int code(int,int,int)", "boolean clear(int)", "boolean seal(int)", "int shape(int,int)",
        "int share(int,int,int)", "boolean reserve(int,int,int)", "boolean permit(int,int,int)",
        "boolean launch(int,int)", "boolean feed(int,int)", "int run(int)", "int state(int)", "int steps(int)",
        "int used(int)", "int live(int)", "int collections(int)", "int ended(int)", "int messages(int)",
        "int output(int,int)", "int local(int,int)", "int look(int,int,int)");

    public static void main(String[] args) {
        methodsAreThoseOfTheDocument();
        nothingElseIsVisible();
        Check.done();
    }

    private static void methodsAreThoseOfTheDocument() {
        Set<String> seen = new TreeSet<>();
        for (Method method : TenantHost.class.getDeclaredMethods()) {
            if (!Modifier.isPrivate(method.getModifiers())) {
                Check.yes(method.getName() + " is public", Modifier.isPublic(method.getModifiers()));
                Check.no(method.getName() + " is static", Modifier.isStatic(method.getModifiers()));
                seen.add(textOf(method));
            }
        }
        for (String method : FACE) {
            Check.yes("there is " + method, seen.remove(method));
        }
        Check.due("methods that the document has not: " + seen, seen.size(), 0);
    }

    private static void nothingElseIsVisible() {
        Check.yes("the class is public and final",
            TenantHost.class.getModifiers() == (Modifier.PUBLIC | Modifier.FINAL));
        Constructor<?>[] constructors = TenantHost.class.getDeclaredConstructors();
        Check.due("constructors", constructors.length, 1);
        Check.yes("the constructor is public", Modifier.isPublic(constructors[0].getModifiers()));
        for (Field field : TenantHost.class.getDeclaredFields()) {
            Check.yes(field.getName() + " is private", Modifier.isPrivate(field.getModifiers()));
        }
        for (Class<?> inside : TenantHost.class.getDeclaredClasses()) {
            Check.yes(inside.getName() + " is static", Modifier.isStatic(inside.getModifiers()));
            Check.no(inside.getName() + " is public", Modifier.isPublic(inside.getModifiers()));
        }
    }

    private static String textOf(Method method) {
        StringBuilder text = new StringBuilder(method.getReturnType().getName());
        text.append(' ').append(method.getName()).append('(');
        String between = "";
        for (Class<?> type : method.getParameterTypes()) {
            text.append(between).append(type.getName());
            between = ",";
        }
        return text.append(')').toString();
    }
}
