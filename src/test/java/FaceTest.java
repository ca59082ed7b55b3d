import java.lang.reflect.Field;
import java.lang.reflect.Method;
import java.lang.reflect.Modifier;
import java.util.Arrays;
import java.util.Set;
import java.util.TreeSet;

// The class shows the face that the document gives, and no member beyond it.
public final class FaceTest {
    private static final Set<String> FACE = new TreeSet<>(Arrays.asList(
            "public int link(int,int)",
            "public int cut(int)",
            "public int turn(int)",
            "public int set(int,int)",
            "public int paint(int,int)",
            "public int root(int)",
            "public int parent(int)",
            "public int depth(int)",
            "public int sumUp(int)",
            "public int leastUp(int)",
            "public int meet(int,int)",
            "public int sumPart(int)"));

    private static int wrong = 0;

    private static void due(String what, Object got, Object want) {
        if (!got.equals(want)) {
            wrong++;
            System.out.println(what + " is " + got + ", due is " + want);
        }
    }

    private static void methods() {
        Set<String> seen = new TreeSet<>();
        for (Method method : LinkForest.class.getDeclaredMethods()) {
            if (!Modifier.isPrivate(method.getModifiers())) {
                seen.add(method.toString().replace("LinkForest.", ""));
            }
        }
        due("the set of methods that are not private", seen, FACE);
    }

    private static void fields() {
        for (Field field : LinkForest.class.getDeclaredFields()) {
            due("private field " + field.getName(), Modifier.isPrivate(field.getModifiers()), true);
        }
    }

    public static void main(String[] args) {
        due("the class", Modifier.toString(LinkForest.class.getModifiers()), "public final");
        due("the constructors", Arrays.toString(LinkForest.class.getDeclaredConstructors()), "[public LinkForest()]");
        due("the number of nested classes", LinkForest.class.getDeclaredClasses().length, 0);
        methods();
        fields();
        System.out.println(wrong == 0 ? "the face is as due" : wrong + " things are not as due");
        if (wrong != 0) {
            System.exit(1);
        }
    }
}
