import java.lang.reflect.Constructor;
import java.lang.reflect.Field;
import java.lang.reflect.Member;
import java.lang.reflect.Method;
import java.lang.reflect.Modifier;
import java.util.Set;
import java.util.TreeSet;

/** The public face of the document, no less and no more. */
public final class FaceTest {
    private static final Set<String> DUE = Set.of(
        "public static final int PageSharer.NONE",
        "public static final int PageSharer.FULL",
        "public PageSharer()",
        "public int PageSharer.spawn()",
        "public int PageSharer.fork(int)",
        "public boolean PageSharer.exit(int)",
        "public int PageSharer.processes()",
        "public boolean PageSharer.map(int,int,int)",
        "public int PageSharer.unmap(int,int,int)",
        "public boolean PageSharer.move(int,int,int,int)",
        "public int PageSharer.read(int,int)",
        "public boolean PageSharer.write(int,int,int)",
        "public int PageSharer.swapOut(int,int)",
        "public int PageSharer.mappers(int,int)",
        "public int PageSharer.mapped(int)",
        "public int PageSharer.resident(int)",
        "public int PageSharer.pages()",
        "public int PageSharer.residentPages()");

    private static final Set<String> found = new TreeSet<>();

    private static void add(Member member, String text) {
        if (!Modifier.isPrivate(member.getModifiers())) {
            found.add(text);
        }
    }

    public static void main(String[] args) {
        for (Field field : PageSharer.class.getDeclaredFields()) {
            add(field, field.toString());
        }
        for (Constructor<?> constructor : PageSharer.class.getDeclaredConstructors()) {
            add(constructor, constructor.toString());
        }
        for (Method method : PageSharer.class.getDeclaredMethods()) {
            add(method, method.toString());
        }
        boolean right = found.equals(DUE)
            && PageSharer.class.getModifiers() == (Modifier.PUBLIC | Modifier.FINAL)
            && PageSharer.NONE == -1
            && PageSharer.FULL == -2;
        if (!right) {
            System.out.println("the face is " + found + ", due is " + new TreeSet<>(DUE));
            System.exit(1);
        }
        System.out.println("the face is as due");
    }
}
