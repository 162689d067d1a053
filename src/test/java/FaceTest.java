import java.lang.reflect.Constructor;
import java.lang.reflect.Field;
import java.lang.reflect.Method;
import java.lang.reflect.Modifier;
import java.util.Arrays;
import java.util.Set;
import java.util.TreeSet;

/** The public face is the document's, and no other. */
public final class FaceTest {
    private static final String[] METHODS = {
        "int weigh(int,int)", "int drag(int)", "int say(int)", "int wipe()", "int fault()", "int judge(int)",
        "int done()", "int foot()", "int car(int,int)", "int pull()", "int behind(int)", "int leftOut(int)",
        "int down(int,int)", "int pebbles(int)", "int brake()", "int balance(int,int)", "int could(int,int,int)",
        "int seen(int,int)", "int forget()", "int filled(int)", "long chance(int,int,int)", "int year(int,int,int)",
        "int image(int)", "int restore(int)", "int told(int)"};
    private static final String[] CONSTANTS = {
        "int NONE", "int UNKNOWN", "int OUTSIDE", "int STATE", "int FULL", "int NO", "long LOST"};

    private FaceTest() {
    }

    public static void main(String[] args) {
        constants();
        Check.due("the class is public and final", FairWheel.class.getModifiers(), Modifier.PUBLIC | Modifier.FINAL);
        same("methods", openMethods(), METHODS);
        same("constants", openFields(), CONSTANTS);
        Constructor<?>[] constructors = FairWheel.class.getDeclaredConstructors();
        Check.due("constructors", constructors.length, 1);
        Check.due("it is public", constructors[0].getModifiers(), Modifier.PUBLIC);
        Check.due("it takes nothing", constructors[0].getParameterCount(), 0);
        names();
        classesInside();
        Check.end();
    }

    private static void constants() {
        Check.due("NONE", FairWheel.NONE, -6);
        Check.due("UNKNOWN", FairWheel.UNKNOWN, -1);
        Check.due("OUTSIDE", FairWheel.OUTSIDE, -2);
        Check.due("STATE", FairWheel.STATE, -3);
        Check.due("FULL", FairWheel.FULL, -4);
        Check.due("NO", FairWheel.NO, -5);
        Check.due("LOST", FairWheel.LOST, -1000000000000000000L);
    }

    private static void same(String what, Set<String> got, String[] want) {
        Set<String> due = new TreeSet<>(Arrays.asList(want));
        if (!got.equals(due)) {
            System.out.println(what + " are " + got + ", due are " + due);
        }
        Check.dueThat(what + " are as told", got.equals(due));
    }

    private static Set<String> openMethods() {
        Set<String> found = new TreeSet<>();
        for (Method m : FairWheel.class.getDeclaredMethods()) {
            if (!Modifier.isPrivate(m.getModifiers())) {
                StringBuilder face = new StringBuilder(m.getReturnType() + " " + m.getName() + "(");
                for (Class<?> c : m.getParameterTypes()) {
                    face.append(face.charAt(face.length() - 1) == '(' ? "" : ",").append(c);
                }
                found.add(face + ")");
                Check.due("modifiers of " + m.getName(), m.getModifiers(), Modifier.PUBLIC);
            }
        }
        return found;
    }

    private static Set<String> openFields() {
        Set<String> found = new TreeSet<>();
        for (Field f : FairWheel.class.getDeclaredFields()) {
            if (!Modifier.isPrivate(f.getModifiers())) {
                found.add(f.getType() + " " + f.getName());
                int due = Modifier.PUBLIC | Modifier.STATIC | Modifier.FINAL;
                Check.due("modifiers of " + f.getName(), f.getModifiers(), due);
            }
        }
        return found;
    }

    /** LANGUAGE.md, rule 1: no private method bears the name of a public one. */
    private static void names() {
        Set<String> open = new TreeSet<>();
        for (String method : METHODS) {
            open.add(method.substring(method.indexOf(' ') + 1, method.indexOf('(')));
        }
        for (Class<?> c : FairWheel.class.getDeclaredClasses()) {
            for (Method m : c.getDeclaredMethods()) {
                Check.dueThat(c.getName() + "." + m.getName() + " has a name of its own", !open.contains(m.getName()));
            }
        }
        for (Method m : FairWheel.class.getDeclaredMethods()) {
            boolean hides = Modifier.isPrivate(m.getModifiers()) && open.contains(m.getName());
            Check.dueThat(m.getName() + " has a name of its own", !hides);
        }
    }

    /** Rules 1, 5 and 11: static, no other static state, twelve classes, twenty fields. */
    private static void classesInside() {
        Class<?>[] inside = FairWheel.class.getDeclaredClasses();
        Check.dueThat("some twelve classes", inside.length < 12);
        for (Class<?> c : inside) {
            Check.dueThat(c + " is static", Modifier.isStatic(c.getModifiers()));
            Check.dueThat(c + " is not open", !Modifier.isPublic(c.getModifiers())
                    && !Modifier.isProtected(c.getModifiers()));
            fields(c);
        }
        fields(FairWheel.class);
    }

    private static void fields(Class<?> c) {
        int count = 0;
        for (Field f : c.getDeclaredFields()) {
            if (Modifier.isStatic(f.getModifiers())) {
                Check.dueThat(f + " is final", Modifier.isFinal(f.getModifiers()));
            } else {
                count++;
            }
        }
        Check.dueThat(c + " has some twenty fields", count <= 20);
    }
}
