import java.lang.reflect.Constructor;
import java.lang.reflect.Field;
import java.lang.reflect.Member;
import java.lang.reflect.Method;
import java.lang.reflect.Modifier;
import java.util.Set;
import java.util.TreeSet;

/** The class has the document's face, and no other member that can be seen from outside. */
public final class FaceTest {
    private static final String[] FACE = {
        "REFUSED = -1", "FULL = -2", "ABSENT = -3", "CYCLE = -4",
        "ARITHMETIC = 1", "INDEX = 2", "CAST = 3", "EMPTY = 4", "LINKAGE = 5", "OWN = 6", "DEEP = 7",
        "PluginBoundary()",
        "public int PluginBoundary.install(int)",
        "public int PluginBoundary.uninstall(int)",
        "public int PluginBoundary.need(int,int,boolean)",
        "public int PluginBoundary.serve(int,int,int)",
        "public int PluginBoundary.extend(int,int,int,int,double)",
        "public int PluginBoundary.start(int)",
        "public int PluginBoundary.stop(int)",
        "public int PluginBoundary.startAll()",
        "public int PluginBoundary.call(int,int)",
        "public int PluginBoundary.forgive(int)",
        "public int PluginBoundary.state(int)",
        "public int PluginBoundary.extension(int,int)",
        "public int PluginBoundary.at(int,int)",
        "public double PluginBoundary.weight(int)",
        "public double PluginBoundary.ordinal(int)",
        "public int PluginBoundary.fault(int,int)",
        "public int PluginBoundary.event(int)",
        "public int PluginBoundary.count(int)",
    };

    public static void main(String[] args) throws IllegalAccessException {
        Set<String> due = new TreeSet<>(Set.of(FACE));
        Set<String> got = seenFromOutside();
        for (String member : due) {
            if (!got.contains(member)) {
                System.out.println("missing: " + member);
            }
        }
        for (String member : got) {
            if (!due.contains(member)) {
                System.out.println("not of the face: " + member);
            }
        }
        boolean closed = Modifier.isFinal(PluginBoundary.class.getModifiers());
        if (!closed) {
            System.out.println("the class is not final");
        }
        if (!closed || !got.equals(due)) {
            System.exit(1);
        }
        System.out.println("the face is as due");
    }

    private static Set<String> seenFromOutside() throws IllegalAccessException {
        Set<String> seen = new TreeSet<>();
        for (Field field : PluginBoundary.class.getDeclaredFields()) {
            if (!isPrivate(field)) {
                boolean constant = Modifier.isStatic(field.getModifiers()) && Modifier.isFinal(field.getModifiers());
                seen.add(field.getName() + (constant ? " = " + field.getInt(null) : ""));
            }
        }
        for (Constructor<?> constructor : PluginBoundary.class.getDeclaredConstructors()) {
            if (!isPrivate(constructor)) {
                seen.add(constructor.toGenericString().replace("public ", ""));
            }
        }
        for (Method method : PluginBoundary.class.getDeclaredMethods()) {
            if (!isPrivate(method)) {
                seen.add(method.toGenericString());
            }
        }
        return seen;
    }

    private static boolean isPrivate(Member member) {
        return Modifier.isPrivate(member.getModifiers());
    }
}
