import java.lang.reflect.Constructor;
import java.lang.reflect.Field;
import java.lang.reflect.Method;
import java.lang.reflect.Modifier;
import java.util.Set;
import java.util.TreeSet;

/** The public face is the document's and no more. */
public final class FaceTest {
    private static final Set<String> FACE = Set.of(
            "int put(int,int,int)", "int turnForm(int,int)", "int combine(int,int,int,int)",
            "int shift(int,int,int,int)", "int value(int,int)", "int ones(int)", "int form(int,int)",
            "int degree(int)", "int spectrum(int,int)", "int distance(int)", "int nearest(int)",
            "int immunity(int)", "int autocorrelation(int,int)", "int variables(int)",
            "int structures(int)", "boolean shifted(int,int)");

    public static void main(String[] args) throws Exception {
        Class<TruthSpectrum> c = TruthSpectrum.class;
        Check.due("the class is public and final", c.getModifiers(), Modifier.PUBLIC | Modifier.FINAL);
        Check.due("nested classes", c.getDeclaredClasses().length, 0);
        methods(c);
        constructors(c);
        fields(c);
        Check.end();
    }

    private static void methods(Class<?> c) {
        Set<String> seen = new TreeSet<>();
        Set<String> publicNames = new TreeSet<>();
        for (Method m : c.getDeclaredMethods()) {
            if (Modifier.isPublic(m.getModifiers())) {
                Check.due("static " + m.getName(), Modifier.isStatic(m.getModifiers()), false);
                seen.add(signature(m));
                publicNames.add(m.getName());
            }
        }
        for (Method m : c.getDeclaredMethods()) {
            boolean isPublic = Modifier.isPublic(m.getModifiers());
            Check.due(m.getName() + " is public or private", isPublic || Modifier.isPrivate(m.getModifiers()), true);
            Check.due(m.getName() + " is private and named like a public one",
                    !isPublic && publicNames.contains(m.getName()), false);
        }
        for (String s : FACE) {
            Check.due("has " + s, seen.contains(s), true);
        }
        for (String s : seen) {
            Check.due("the document has " + s, FACE.contains(s), true);
        }
    }

    private static String signature(Method m) {
        StringBuilder text = new StringBuilder(m.getReturnType() + " " + m.getName() + "(");
        String between = "";
        for (Class<?> p : m.getParameterTypes()) {
            text.append(between).append(p);
            between = ",";
        }
        return text.append(")").toString();
    }

    private static void constructors(Class<?> c) {
        Constructor<?>[] all = c.getDeclaredConstructors();
        Check.due("constructors", all.length, 1);
        Check.due("parameters of the constructor", all[0].getParameterCount(), 0);
        Check.due("the constructor is public", Modifier.isPublic(all[0].getModifiers()), true);
    }

    private static void fields(Class<?> c) throws Exception {
        for (Field f : c.getDeclaredFields()) {
            boolean isConstant = f.getName().equals("BAD_ARG");
            Check.due(f.getName() + " is private", Modifier.isPrivate(f.getModifiers()), !isConstant);
            Check.due(f.getName() + " is public", Modifier.isPublic(f.getModifiers()), isConstant);
            if (Modifier.isStatic(f.getModifiers())) {
                Check.due(f.getName() + " is final", Modifier.isFinal(f.getModifiers()), true);
                Check.due(f.getName() + " is an int or a long", f.getType() == int.class || f.getType() == long.class, true);
            }
        }
        Field bad = c.getDeclaredField("BAD_ARG");
        Check.due("BAD_ARG", bad.getInt(null), -1000);
        Check.due("BAD_ARG is static, final and an int",
                Modifier.isStatic(bad.getModifiers()) && Modifier.isFinal(bad.getModifiers()) && bad.getType() == int.class, true);
    }
}
