import java.lang.reflect.Constructor;
import java.lang.reflect.Field;
import java.lang.reflect.Method;
import java.lang.reflect.Modifier;
import java.util.Set;
import java.util.TreeSet;

/** The class has the document's face, just so, and nothing else that can be seen from outside. */
public final class FaceTest {
    private static final String[] FACE = {
        "int feed(int,int,int,int,int)", "int back(int)", "int read(int)", "int place()", "int family()",
        "boolean clock(int)", "boolean term(int)", "int tell(int,int,int)", "int known(int,int,int)",
        "int why(int,int,int,int)", "int cost(int,int,int,int)", "int round(int,int)", "int goes(int)",
        "int costs()", "int take()", "int fall(int)", "int moved(int)", "int close()", "int link(int,int)",
        "int of(int,int)", "int count(int)"
    };

    public static void main(String[] args) {
        Set<String> seen = new TreeSet<>();
        Set<String> names = new TreeSet<>();
        for (Method m : HostYear.class.getDeclaredMethods()) {
            if (!Modifier.isPrivate(m.getModifiers())) {
                seen.add(sign(m));
                names.add(m.getName());
                Check.due(m + " is public", Modifier.isPublic(m.getModifiers()), true);
            }
        }
        Check.due("methods " + seen, seen.equals(new TreeSet<>(Set.of(FACE))), true);
        noPrivateMethodBorrowsAName(HostYear.class, names);
        for (Class<?> inside : HostYear.class.getDeclaredClasses()) {
            Check.due(inside + " is static", Modifier.isStatic(inside.getModifiers()), true);
            Check.due(inside + " is public", Modifier.isPublic(inside.getModifiers()), false);
            noPrivateMethodBorrowsAName(inside, names);
        }
        for (Field f : HostYear.class.getDeclaredFields()) {
            Check.due(f + " is private", Modifier.isPrivate(f.getModifiers()), !f.getName().equals("NONE"));
        }
        Constructor<?>[] made = HostYear.class.getDeclaredConstructors();
        Check.due("constructors", made.length, 1);
        Check.due("its parameters", made[0].getParameterCount(), 0);
        Check.due("it is public", Modifier.isPublic(made[0].getModifiers()), true);
        Check.due("class is final", Modifier.isFinal(HostYear.class.getModifiers()), true);
        Check.due("NONE", HostYear.NONE, -1);
        Check.end("FaceTest");
    }

    private static String sign(Method m) {
        StringBuilder text = new StringBuilder(m.getReturnType() + " " + m.getName() + "(");
        for (Class<?> type : m.getParameterTypes()) {
            text.append(text.charAt(text.length() - 1) == '(' ? "" : ",").append(type);
        }
        return text.append(")").toString();
    }

    private static void noPrivateMethodBorrowsAName(Class<?> owner, Set<String> names) {
        for (Method m : owner.getDeclaredMethods()) {
            boolean isFace = owner == HostYear.class && Modifier.isPublic(m.getModifiers());
            Check.due(m + " borrows a name", !isFace && names.contains(m.getName()), false);
        }
    }
}
