import java.lang.reflect.Constructor;
import java.lang.reflect.Field;
import java.lang.reflect.Method;
import java.lang.reflect.Modifier;
import java.util.Arrays;
import java.util.Set;
import java.util.TreeSet;

/** The public face is that of the document and nothing more. */
public final class FaceTest {
    private static final String[] FACE = {
        "int act(int,int,int)", "int put(int,int,int)", "int of(int,int)", "int gainsay(int,int,int)", "int reader(int,int)",
        "int throat(int,int)", "int listen(int,int)", "int terms(int,int)", "int feed(int,int,int,int,int)", "int end(int)",
        "int row()", "int mud()", "int law()", "int orders()", "int fault()", "int stopped()", "int force(int)",
        "int asks(int,int,int)", "int read(int,int)", "int undo()", "int log(int,int)", "int await()", "int held(int)",
        "int bound(int,int)", "int mornings(int,int,int,int,int)", "int game(int,int,int,int,int,int)", "int dead()",
        "int throats(int,int)", "int days(int,int)", "long likely(int,int,int)", "int fine(int,int,int,int)", "int forgive()",
        "int judge()", "int unwritten(int)", "int years(int,int)", "int drawn(int,int)", "int image(int)", "int back(int)",
        "int count(int)", "int status()"};

    private FaceTest() { }

    public static void main(String[] args) {
        Class<?> c = FadingActs.class;
        Due.be("final", Modifier.isFinal(c.getModifiers()) && Modifier.isPublic(c.getModifiers()) ? 1 : 0, 1);
        Set<String> face = new TreeSet<>(Arrays.asList(FACE));
        Set<String> names = new TreeSet<>();
        Set<String> found = new TreeSet<>();
        for (Method m : c.getDeclaredMethods()) {
            String parameters = Arrays.toString(m.getParameterTypes()).replace(" ", "").replace("[", "(").replace("]", ")");
            String told = m.getReturnType() + " " + m.getName() + parameters;
            if (Modifier.isPublic(m.getModifiers())) {
                found.add(told);
                names.add(m.getName());
                Due.be("static " + told, Modifier.isStatic(m.getModifiers()) ? 1 : 0, 0);
            } else {
                Due.be("private " + told, Modifier.isPrivate(m.getModifiers()) ? 1 : 0, 1);
            }
        }
        Due.be("methods " + found, found.equals(face) ? 1 : 0, 1);
        for (Method m : c.getDeclaredMethods()) {
            if (!Modifier.isPublic(m.getModifiers())) Due.be("name " + m.getName(), names.contains(m.getName()) ? 1 : 0, 0);
        }
        int constants = 0;
        for (Field f : c.getDeclaredFields()) {
            boolean told = f.getName().equals("NONE") || f.getName().equals("NOTHING");
            Due.be("field " + f.getName(), told ? Modifier.isPublic(f.getModifiers()) ? 1 : 0
                    : Modifier.isPrivate(f.getModifiers()) ? 1 : 0, 1);
            if (told) constants++;
        }
        Due.be("constants", constants, 2);
        Due.be("NONE", FadingActs.NONE, -1);
        Due.be("NOTHING", FadingActs.NOTHING, -1000);
        Constructor<?>[] constructors = c.getDeclaredConstructors();
        Due.be("constructors", constructors.length, 1);
        Due.be("parameters", constructors[0].getParameterCount(), 0);
        for (Class<?> inside : c.getDeclaredClasses()) nested(inside, names);
        Due.be("classes", c.getDeclaredClasses().length < 12 ? 1 : 0, 1);
        Due.close();
    }

    private static void nested(Class<?> inside, Set<String> names) {
        int m = inside.getModifiers();
        Due.be(inside + " is static", Modifier.isStatic(m) ? 1 : 0, 1);
        Due.be(inside + " is not open", Modifier.isPublic(m) || Modifier.isProtected(m) ? 1 : 0, 0);
        int fields = 0;
        for (Field f : inside.getDeclaredFields()) {
            if (Modifier.isStatic(f.getModifiers())) Due.be("static " + f, Modifier.isFinal(f.getModifiers()) ? 1 : 0, 1);
            else fields++;
        }
        Due.be(inside + " has few fields", fields <= 20 ? 1 : 0, 1);
        for (Method own : inside.getDeclaredMethods()) {
            Due.be("name " + own, names.contains(own.getName()) ? 1 : 0, 0);
            Due.be("parameters of " + own, own.getParameterCount() <= 7 ? 1 : 0, 1);
        }
    }
}
