import java.lang.reflect.Constructor;
import java.lang.reflect.Field;
import java.lang.reflect.Method;
import java.lang.reflect.Modifier;
import java.util.Set;
import java.util.TreeSet;

/** The public face of the document, no more and no less. */
public final class FaceTest {
    private static final Set<String> DUE = Set.of(
            "public static final int DeterminantDesk.BAD",
            "public DeterminantDesk()",
            "public boolean DeterminantDesk.set(int,int,int)",
            "public int DeterminantDesk.at(int,int)",
            "public boolean DeterminantDesk.swapRows(int,int)",
            "public boolean DeterminantDesk.addRow(int,int,int)",
            "public void DeterminantDesk.transpose()",
            "public int DeterminantDesk.determinant()",
            "public int DeterminantDesk.minor(int,int)",
            "public int DeterminantDesk.replaced(int)",
            "public int DeterminantDesk.rank()",
            "public int DeterminantDesk.wideRank()",
            "public int DeterminantDesk.coefficient(int)",
            "public int DeterminantDesk.principal(int)",
            "public int DeterminantDesk.rankOf(int)",
            "public int DeterminantDesk.determinantWith(int,int,int)",
            "public int DeterminantDesk.shifted(int)");

    public static void main(String[] args) {
        Set<String> seen = new TreeSet<>();
        for (Field field : DeterminantDesk.class.getDeclaredFields()) {
            if (!Modifier.isPrivate(field.getModifiers())) {
                seen.add(field.toString());
            }
        }
        for (Constructor<?> constructor : DeterminantDesk.class.getDeclaredConstructors()) {
            seen.add(constructor.toString());
        }
        for (Method method : DeterminantDesk.class.getDeclaredMethods()) {
            if (!Modifier.isPrivate(method.getModifiers())) {
                seen.add(method.toString());
            }
        }
        boolean right = seen.equals(DUE)
                && DeterminantDesk.BAD == -1000000000
                && DeterminantDesk.class.getModifiers() == (Modifier.PUBLIC | Modifier.FINAL);
        if (!right) {
            System.out.println("the public face is " + seen + ", due is " + new TreeSet<>(DUE));
            System.exit(1);
        }
        System.out.println("the public face is as due");
    }
}
