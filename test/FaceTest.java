import java.lang.reflect.Constructor;
import java.lang.reflect.Field;
import java.lang.reflect.Member;
import java.lang.reflect.Method;
import java.lang.reflect.Modifier;
import java.util.ArrayList;
import java.util.List;
import java.util.TreeSet;

/** "The public face": the class has just these constants, this constructor and these calls, and nothing more to be seen. */
public final class FaceTest {
    private static final Due due = new Due("FaceTest");

    private static final String[] CONSTANTS = {"NONE -1", "UNKNOWN -101", "OUTSIDE -102", "STATE -103", "FULL -104"};

    /** Each call that answers with an int, with the number of ints that it takes. */
    private static final String[] CALLS = {
        "make 0", "meet 2", "has 2", "say 2", "role 2", "chain 3", "unsay 1", "notion 2", "axiom 2",
        "conclude 0", "rounds 0", "conclusion 2", "is 2", "to 3", "proof 1",
        "under 2", "like 1", "parent 2", "broken 0",
        "things 0", "isOf 2", "pair 3", "holds 1",
        "count 1"
    };

    public static void main(String[] args) throws IllegalAccessException {
        classItself();
        constants();
        constructor();
        calls();
        fields();
        classesInside();
        due.end();
    }

    private static void so(String what, boolean so) {
        due.is(what, so ? 1 : 0, 1);
    }

    private static boolean hidden(Member member) {
        return Modifier.isPrivate(member.getModifiers()) || member.isSynthetic();
    }

    private static void classItself() {
        int modifiers = NotionRounds.class.getModifiers();
        so("public final class NotionRounds", Modifier.isPublic(modifiers) && Modifier.isFinal(modifiers));
        so("it has no package", NotionRounds.class.getPackageName().isEmpty());
        so("it is under no class but Object", NotionRounds.class.getSuperclass() == Object.class);
        due.is("interfaces of it", NotionRounds.class.getInterfaces().length, 0);
    }

    private static void constants() throws IllegalAccessException {
        List<String> found = new ArrayList<>();
        for (Field field : NotionRounds.class.getDeclaredFields()) {
            if (!hidden(field)) {
                int modifiers = field.getModifiers();
                so(field.getName() + " is public static final int", Modifier.isPublic(modifiers) && Modifier.isStatic(modifiers)
                    && Modifier.isFinal(modifiers) && field.getType() == int.class);
                found.add(field.getName() + " " + field.get(null));
            }
        }
        alike("constants", found, List.of(CONSTANTS));
    }

    private static void constructor() {
        Constructor<?>[] constructors = NotionRounds.class.getDeclaredConstructors();
        due.is("constructors", constructors.length, 1);
        so("public NotionRounds()", Modifier.isPublic(constructors[0].getModifiers()) && constructors[0].getParameterCount() == 0);
    }

    private static void calls() {
        List<String> wanted = new ArrayList<>();
        for (String call : CALLS) {
            wanted.add("int " + call);
        }
        wanted.add("long digest 0");
        List<String> found = new ArrayList<>();
        List<String> inside = new ArrayList<>();
        for (Method method : NotionRounds.class.getDeclaredMethods()) {
            if (hidden(method)) {
                inside.add(method.getName());
                continue;
            }
            int modifiers = method.getModifiers();
            so(method.getName() + " is public, of an object", Modifier.isPublic(modifiers) && !Modifier.isStatic(modifiers));
            for (Class<?> type : method.getParameterTypes()) {
                so(method.getName() + " takes ints", type == int.class);
            }
            found.add(method.getReturnType() + " " + method.getName() + " " + method.getParameterCount());
        }
        alike("calls", found, wanted);
        for (String call : wanted) {
            so("no private method bears the name of " + call, !inside.contains(call.split(" ")[1]));
        }
    }

    /** Two objects know nothing of one another: all that is static is final, and a number. */
    private static void fields() {
        for (Class<?> type : all()) {
            for (Field field : type.getDeclaredFields()) {
                boolean constant = Modifier.isFinal(field.getModifiers()) && field.getType().isPrimitive();
                so(field + " is of an object, or a constant", constant || !Modifier.isStatic(field.getModifiers()) || field.isSynthetic());
            }
        }
    }

    private static void classesInside() {
        for (Class<?> type : NotionRounds.class.getDeclaredClasses()) {
            int modifiers = type.getModifiers();
            so(type + " is static", Modifier.isStatic(modifiers));
            so(type + " is private or package-visible", !Modifier.isPublic(modifiers) && !Modifier.isProtected(modifiers));
        }
        so("twelve classes at most", all().size() <= 12);
    }

    private static List<Class<?>> all() {
        List<Class<?>> all = new ArrayList<>(List.of(NotionRounds.class.getDeclaredClasses()));
        all.add(NotionRounds.class);
        return all;
    }

    private static void alike(String what, List<String> found, List<String> wanted) {
        so(what + ": " + new TreeSet<>(found) + ", due are " + new TreeSet<>(wanted),
            found.size() == wanted.size() && new TreeSet<>(found).equals(new TreeSet<>(wanted)));
    }
}
