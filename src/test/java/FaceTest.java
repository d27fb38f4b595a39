import java.lang.reflect.Constructor;
import java.lang.reflect.Field;
import java.lang.reflect.Method;
import java.lang.reflect.Modifier;
import java.util.Set;
import java.util.TreeSet;

/** The public face is the document's, and nothing else of the class can be seen from outside. */
public final class FaceTest {
    private static final String S = "java.lang.IllegalStateException";
    private static final String I = "java.lang.IndexOutOfBoundsException";
    private static final String A = "java.lang.IllegalArgumentException";

    private static final Set<String> FACE = Set.of(
        "public boolean RadicalAnswers.put(int,int) throws " + I + "," + A,
        "public int RadicalAnswers.at(int) throws " + I,
        "public boolean RadicalAnswers.change(int) throws " + A,
        "public int RadicalAnswers.factors() throws " + S,
        "public int RadicalAnswers.factor(int,int) throws " + S + "," + I + "," + A,
        "public int RadicalAnswers.content() throws " + S,
        "public int RadicalAnswers.left(int) throws " + S + "," + I,
        "public int RadicalAnswers.answer(int,int,int) throws " + S + "," + I + "," + A,
        "public int RadicalAnswers.real() throws " + S,
        "public int RadicalAnswers.floor(int,boolean) throws " + S + "," + I + "," + A,
        "public int RadicalAnswers.compare(int,boolean,int,boolean) throws " + S + "," + I + "," + A,
        "public void RadicalAnswers.clear()");

    public static void main(String[] args) {
        Class<?> c = RadicalAnswers.class;
        Check.due("public and final", Modifier.isPublic(c.getModifiers()) && Modifier.isFinal(c.getModifiers()), true);
        Set<String> seen = new TreeSet<>();
        Set<String> publicNames = new TreeSet<>();
        for (Method m : c.getDeclaredMethods()) {
            if (!Modifier.isPrivate(m.getModifiers())) {
                seen.add(m.toString());
                publicNames.add(m.getName());
            }
        }
        for (String one : FACE) {
            Check.due("has " + one, seen.contains(one), true);
        }
        for (String one : seen) {
            Check.due("may have " + one, FACE.contains(one), true);
        }
        for (Method m : c.getDeclaredMethods()) {
            if (Modifier.isPrivate(m.getModifiers())) {
                Check.due("a private method's name: " + m.getName(), publicNames.contains(m.getName()), false);
            }
        }
        Constructor<?>[] made = c.getDeclaredConstructors();
        Check.due("constructors", made.length, 1);
        Check.due("the constructor", made[0].toString().equals("public RadicalAnswers()"), true);
        for (Field f : c.getDeclaredFields()) {
            Check.due("private field " + f.getName(), Modifier.isPrivate(f.getModifiers()), true);
            // What one object holds is never another one's.
            if (Modifier.isStatic(f.getModifiers())) {
                Check.due("final field " + f.getName(), Modifier.isFinal(f.getModifiers()), true);
            }
        }
        for (Class<?> inside : c.getDeclaredClasses()) {
            int marks = inside.getModifiers();
            Check.due("static class " + inside.getName(), Modifier.isStatic(marks), true);
            boolean isSeen = Modifier.isPublic(marks) || Modifier.isProtected(marks);
            Check.due("class seen from outside: " + inside.getName(), isSeen, false);
        }
        Check.due("no class above it", c.getSuperclass() == Object.class && c.getInterfaces().length == 0, true);
        Check.end();
    }
}
