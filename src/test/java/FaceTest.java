import java.lang.reflect.Constructor;
import java.lang.reflect.Field;
import java.lang.reflect.Method;
import java.lang.reflect.Modifier;
import java.util.Arrays;
import java.util.TreeSet;

/** The public face is the document's, with nothing else that can be seen from outside. */
public final class FaceTest {
    private static final String[] METHODS = {
        "int feed(int,int,int,int,int)", "int text(int)", "int camera(int,int)", "int kind(int,int)",
        "int side(int,int)", "int play(int,int)", "int frame(int,int,int) throws NoSuchElementException",
        "int verdict(int,int)", "int by(int,int)", "int gap(int,int,int,boolean)", "int fewest(int)",
        "int key(int)", "int enough(int)", "int mend(int)", "int look(int,int)", "int next()",
        "int challenge(int,int)", "int put(int,int)", "int votes(int,int)", "int pivot(int,int)",
        "int boards(int)", "int truth(int)", "int range(int,boolean)", "int wrong()", "int left(int)",
        "int need(int)", "int seconds(int)", "int extra()",
        "int log(int,int) throws NoSuchElementException", "int sheet(int,int,int)",
        "int row(int) throws NoSuchElementException", "int undo()", "boolean keep(int,boolean)",
        "int count(int)",
    };

    public static void main(String[] args) {
        Class<?> face = ReplayBooth.class;
        Check.due("public and final", face.getModifiers(), Modifier.PUBLIC | Modifier.FINAL);
        TreeSet<String> methods = new TreeSet<>();
        TreeSet<String> hidden = new TreeSet<>();
        for (Method m : face.getDeclaredMethods()) {
            if (m.isSynthetic()) {
                continue;
            }
            if (Modifier.isPrivate(m.getModifiers())) {
                hidden.add(m.getName());
            } else {
                Check.due(m.getName() + " is public alone", m.getModifiers(), Modifier.PUBLIC);
                methods.add(signature(m));
            }
        }
        TreeSet<String> due = new TreeSet<>(Arrays.asList(METHODS));
        if (!methods.equals(due)) {
            Check.fail("methods are " + methods + ", due are " + due);
        }
        for (String name : due) {
            String bare = name.substring(name.indexOf(' ') + 1, name.indexOf('('));
            Check.due("a private method " + bare, hidden.contains(bare), false);
        }
        for (Field f : face.getDeclaredFields()) {
            boolean seen = !Modifier.isPrivate(f.getModifiers()) && !f.isSynthetic();
            Check.due("field " + f.getName() + " is seen", seen, f.getName().equals("NONE"));
        }
        Constructor<?>[] made = face.getDeclaredConstructors();
        Check.due("constructors", made.length, 1);
        Check.due("the constructor", made[0].getModifiers(), Modifier.PUBLIC);
        Check.due("its parameters", made[0].getParameterCount(), 0);
        Check.due("NONE", ReplayBooth.NONE, -1);
        Check.end("FaceTest");
    }

    private static String signature(Method m) {
        StringBuilder out = new StringBuilder();
        out.append(m.getReturnType().getName()).append(' ').append(m.getName()).append('(');
        Class<?>[] kinds = m.getParameterTypes();
        for (int i = 0; i < kinds.length; i++) {
            out.append(i == 0 ? "" : ",").append(kinds[i].getName());
        }
        out.append(')');
        for (Class<?> e : m.getExceptionTypes()) {
            out.append(" throws ").append(e.getSimpleName());
        }
        return out.toString();
    }
}
