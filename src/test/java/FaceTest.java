import java.lang.reflect.Constructor;
import java.lang.reflect.Field;
import java.lang.reflect.Method;
import java.lang.reflect.Modifier;
import java.util.Arrays;
import java.util.List;
import java.util.NoSuchElementException;
import java.util.Set;
import java.util.TreeSet;
import java.util.regex.Matcher;
import java.util.regex.Pattern;
import java.util.stream.Collectors;

/** The class has the document's face and nothing else that can be seen (LANGUAGE.md, rules 1, 2 and 11). */
public final class FaceTest {
    private static final List<String> FACE = List.of(
            "int feed(long,long,long)", "int name(int,int,boolean)", "int known(int,int)", "int alike(int,int)",
            "boolean place(int,int,int,int,int)", "int cut(int,int,int,int)", "boolean clean(int)", "int traces(int,int)",
            "int layer(int,int,int)", "int fits(int,int)", "int crowded(int,int)", "boolean dated(int,int)",
            "int stories(int)", "int story(int,int)", "int odds(int,int)", "int between(int,int)", "int stood(int,int)",
            "int next(int)", "int doubt()", "int order(int)", "boolean works(int,int,boolean)", "int ran(int,int)",
            "int made(int,int,int)", "int agrees(int)", "int missed(int)", "int far(int,int,int)",
            "boolean block(boolean,int,int,int,int)", "int ways(int)", "int back(int)", "int count(int)");

    private static String shown(Method m) {
        String args = Arrays.stream(m.getParameterTypes()).map(Class::getName).collect(Collectors.joining(","));
        return m.getReturnType().getName() + " " + m.getName() + "(" + args + ")";
    }

    /** The methods that the document's face shows, without the names of what they take. */
    private static Set<String> documentsFace() {
        Set<String> face = new TreeSet<>();
        Matcher shown = Pattern.compile("public (int|boolean) (\\w+)\\(([^)]*)\\)").matcher(Check.document());
        while (shown.find()) {
            String types = shown.group(3).replaceAll(" \\w+(, |$)", "$1").replace(", ", ",");
            face.add(shown.group(1) + " " + shown.group(2) + "(" + types + ")");
        }
        return face;
    }

    private static void checkDocument() {
        Check.so("the document's face: " + documentsFace(),
                Check.document().isEmpty() || documentsFace().equals(new TreeSet<>(FACE)));
        Check.says("The constants: `NONE = -1`: None.");
        Check.same("NONE", NamesUnder.NONE, -1);
        Check.says("public int layer(int place, int layer, int what) throws NoSuchElementException;");
        for (Method m : NamesUnder.class.getDeclaredMethods()) {
            boolean throwing = Arrays.asList(m.getExceptionTypes()).contains(NoSuchElementException.class);
            Check.so(m + " tells what it throws", throwing == m.getName().equals("layer"));
        }
    }

    private static void checkMethods() {
        Set<String> visible = new TreeSet<>();
        Set<String> publicNames = new TreeSet<>();
        for (Method m : NamesUnder.class.getDeclaredMethods()) {
            if (!Modifier.isPrivate(m.getModifiers())) {
                visible.add(shown(m));
                publicNames.add(m.getName());
                Check.so(m + " is public and not static",
                        Modifier.isPublic(m.getModifiers()) && !Modifier.isStatic(m.getModifiers()));
            }
        }
        Check.so("methods that can be seen: " + visible, visible.equals(new TreeSet<>(FACE)));
        for (Method m : NamesUnder.class.getDeclaredMethods()) {
            boolean bears = Modifier.isPrivate(m.getModifiers()) && publicNames.contains(m.getName());
            Check.not(m + " bears a public name", bears);
        }
    }

    private static void checkClasses() {
        Class<?>[] inside = NamesUnder.class.getDeclaredClasses();
        Check.so("at most twelve classes", inside.length + 1 <= 12);
        for (Class<?> c : inside) {
            int mods = c.getModifiers();
            Check.so(c + " is static and not public", Modifier.isStatic(mods) && !Modifier.isPublic(mods));
            long fields = Arrays.stream(c.getDeclaredFields()).filter(f -> !Modifier.isStatic(f.getModifiers())).count();
            Check.so(c + " has at most twenty fields", fields <= 20);
            for (Field f : c.getDeclaredFields()) {
                Check.so(f + " static only if final", !Modifier.isStatic(f.getModifiers()) || Modifier.isFinal(f.getModifiers()));
            }
            for (Method m : c.getDeclaredMethods()) {
                Check.so(m + " takes at most seven", m.getParameterCount() <= 7);
                Check.not(m + " bears a public name", FACE.stream().anyMatch(f -> f.contains(" " + m.getName() + "(")));
            }
        }
    }

    public static void main(String[] args) {
        int mods = NamesUnder.class.getModifiers();
        Check.so("public and final", Modifier.isPublic(mods) && Modifier.isFinal(mods));
        checkMethods();
        for (Constructor<?> c : NamesUnder.class.getDeclaredConstructors()) {
            Check.so(c + " is the public one", Modifier.isPublic(c.getModifiers()) && c.getParameterCount() == 0);
        }
        for (Field f : NamesUnder.class.getDeclaredFields()) {
            Check.so(f + " is private but for NONE", Modifier.isPrivate(f.getModifiers()) || f.getName().equals("NONE"));
        }
        checkClasses();
        checkDocument();
        Check.end();
    }
}
