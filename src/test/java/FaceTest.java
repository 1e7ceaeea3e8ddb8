import java.lang.reflect.Constructor;
import java.lang.reflect.Field;
import java.lang.reflect.Method;
import java.lang.reflect.Modifier;
import java.util.TreeSet;

/** The public face is the document's and no more. */
public final class FaceTest {
    private static final String[] FACE = {
        "boolean family(int,int)", "int feed(int,int,int,int,int)", "int deal(int,int)", "int law(int)", "int word(int)",
        "int fault()", "int size(int,int)", "int leaf(int,int,int)", "int plain(int,int)", "int same(int,int)",
        "int add(int)", "int clear()", "long passed(int,int,int)", "long net(int,int,int,int)", "int codes()",
        "int lends(int,int)", "long price(int,int,int)", "int loan()", "long step()", "long bears(int,int)",
        "long cost(int,int,int)", "int breach(int)", "int bars(int)", "int offer(int)", "int sly(int,int)", "int honest()",
        "int innocent(int,int)", "int parts(int)", "int stop(int)", "int heap(int,int)", "int group(int,int)",
        "int count(int)"};

    public static void main(String[] args) {
        TreeSet<String> due = new TreeSet<>(java.util.List.of(FACE));
        due.add("field int NONE");
        due.add("constructor ()");
        TreeSet<String> got = new TreeSet<>();
        Class<?> face = LoanNames.class;
        for (Method m : face.getDeclaredMethods()) {
            if (!Modifier.isPrivate(m.getModifiers()) && !m.isSynthetic()) {
                String told = m.toString();
                got.add(m.getReturnType() + " " + m.getName() + told.substring(told.indexOf('(')));
            }
        }
        for (Field f : face.getDeclaredFields()) {
            if (!Modifier.isPrivate(f.getModifiers()) && !f.isSynthetic()) {
                got.add("field " + f.getType() + " " + f.getName());
            }
        }
        for (Constructor<?> c : face.getDeclaredConstructors()) {
            if (!c.isSynthetic()) {
                got.add("constructor " + (c.getParameterCount() == 0 ? "()" : c.toString()));
            }
        }
        boolean isFinal = Modifier.isFinal(face.getModifiers()) && Modifier.isPublic(face.getModifiers());
        if (!due.equals(got) || !isFinal) {
            System.out.println("the face is " + got + ", due is " + due);
            System.exit(1);
        }
    }
}
