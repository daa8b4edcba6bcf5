import java.lang.reflect.Constructor;
import java.lang.reflect.Field;
import java.lang.reflect.Method;
import java.lang.reflect.Modifier;
import java.util.Set;
import java.util.TreeSet;

/** The public face, and that nothing else can be seen of the class. */
public final class FaceTest {
    public static void main(String[] args) {
        Check c = new Check("FaceTest");
        c.due("NONE", LampLine.NONE, -1);
        int kind = LampLine.class.getModifiers();
        c.due("the class is public and final", Modifier.isPublic(kind) && Modifier.isFinal(kind) ? 1 : 0, 1);
        Set<String> face = new TreeSet<>(Set.of("int lamp(int,long,int,int,int)", "int feed(int,int,int,int,int)",
                "void end(int)", "int send()", "int answer(int)"));
        face.addAll(Set.of("int ask(int,long,int,int,int)", "void spoil(int,int)", "int frames()",
                "int about(int,int)", "long rest(int)", "int level(int,int)", "int label(int,int)",
                "int silence(int,boolean)", "int search()"));
        face.addAll(Set.of("int step(int)", "int found()", "long id(int)", "long branch(int)"));
        Set<String> seen = new TreeSet<>();
        Set<String> hidden = new TreeSet<>();
        for (Method m : LampLine.class.getDeclaredMethods()) {
            if (Modifier.isPrivate(m.getModifiers())) {
                hidden.add(m.getName());
            } else {
                seen.add(written(m));
            }
        }
        c.due("the methods are " + seen, seen.equals(face) ? 1 : 0, 1);
        for (String method : face) {
            String name = method.substring(method.indexOf(' ') + 1, method.indexOf('('));
            c.due("a private method is named " + name, hidden.contains(name) ? 1 : 0, 0);
        }
        for (Field f : LampLine.class.getDeclaredFields()) {
            c.due("the field " + f.getName() + " is private",
                    Modifier.isPrivate(f.getModifiers()) == f.getName().equals("NONE") ? 1 : 0, 0);
        }
        Constructor<?>[] made = LampLine.class.getDeclaredConstructors();
        c.due("one constructor", made.length, 1);
        c.due("it is public", Modifier.isPublic(made[0].getModifiers()) ? 1 : 0, 1);
        for (Class<?> inside : LampLine.class.getDeclaredClasses()) {
            c.due(inside + " is static", Modifier.isStatic(inside.getModifiers()) ? 1 : 0, 1);
            c.due(inside + " is not public", Modifier.isPublic(inside.getModifiers()) ? 1 : 0, 0);
        }
        c.finish();
    }

    private static String written(Method m) {
        StringBuilder text = new StringBuilder(m.getReturnType() + " " + m.getName() + "(");
        for (int k = 0; k < m.getParameterCount(); k++) {
            text.append(k == 0 ? "" : ",").append(m.getParameterTypes()[k]);
        }
        return text.append(")").toString();
    }
}
