import java.lang.reflect.Constructor;
import java.lang.reflect.Field;
import java.lang.reflect.Method;
import java.lang.reflect.Modifier;
import java.util.Set;
import java.util.TreeSet;

/** The class's face is the document's; its members are as many and as visible as LANGUAGE.md lets them be. */
public final class FaceTest {
    private static final Check CHECK = new Check();
    private static final String FACE = "int feed(int,int,int,int,int); int back(int); int read(); int place(); int heap(int);"
            + " int hole(int,int); int rat(int,int); int worth(int); int pure(int,boolean); int minutes(int);"
            + " int pour(int,int); boolean swap(int,int); boolean teach(int,int); boolean give(int,int,int);"
            + " boolean send(int,boolean); int cat(int); boolean sell(int); boolean undo(); boolean isClean(); int clean();"
            + " int then(int,int); int lies(int,int,int); int hire(int,int); int taught(int,int); int taughtAt(int,int,int);"
            + " int bestSwap(int); int missed(int,int); int catAt(int,int); int starves(int); int mean(int,int);"
            + " int sales(int); int tell(int,int,int,int); int forget(); int jokes(int,int); boolean hold(int);"
            + " boolean restore(int); int count(int)";

    public static void main(String[] args) {
        face();
        names();
        fields(RatSorters.class);
        CHECK.end("face");
    }

    private static void face() {
        Set<String> due = new TreeSet<>(Set.of(FACE.split("; ")));
        Set<String> there = new TreeSet<>();
        for (Method m : RatSorters.class.getDeclaredMethods()) {
            if (m.isSynthetic()) {
                continue;
            }
            if (!Modifier.isPrivate(m.getModifiers())) {
                there.add(written(m));
                CHECK.due(m.getName() + " is public", Modifier.isPublic(m.getModifiers()), true);
            }
        }
        if (!there.equals(due)) {
            CHECK.fail("the face is " + there + ", due is " + due);
        }
        Constructor<?>[] constructors = RatSorters.class.getDeclaredConstructors();
        CHECK.due("one constructor", constructors.length, 1);
        CHECK.due("without parameters", constructors[0].getParameterCount(), 0);
        for (Field f : RatSorters.class.getDeclaredFields()) {
            CHECK.due("private but for NONE: " + f.getName(), Modifier.isPrivate(f.getModifiers()), !f.getName().equals("NONE"));
            CHECK.due("static is final: " + f.getName(),
                    !Modifier.isStatic(f.getModifiers()) || Modifier.isFinal(f.getModifiers()), true);
        }
        CHECK.due("NONE", RatSorters.NONE, -1);
        CHECK.due("final", Modifier.isFinal(RatSorters.class.getModifiers()), true);
        for (Class<?> inside : RatSorters.class.getDeclaredClasses()) {
            CHECK.due("static: " + inside.getName(), Modifier.isStatic(inside.getModifiers()), true);
        }
        CHECK.due("some twelve classes at most", RatSorters.class.getDeclaredClasses().length < 12, true);
    }

    private static String written(Method m) {
        StringBuilder b = new StringBuilder(m.getReturnType().getName()).append(' ').append(m.getName()).append('(');
        for (Class<?> type : m.getParameterTypes()) {
            b.append(b.charAt(b.length() - 1) == '(' ? "" : ",").append(type.getName());
        }
        return b.append(')').toString();
    }

    /** No method that is not public bears a public one's name; none takes more than seven parameters. */
    private static void names() {
        Set<String> open = new TreeSet<>();
        for (Method m : RatSorters.class.getDeclaredMethods()) {
            if (Modifier.isPublic(m.getModifiers())) {
                open.add(m.getName());
            }
        }
        for (Class<?> inside : RatSorters.class.getDeclaredClasses()) {
            for (Method m : inside.getDeclaredMethods()) {
                CHECK.due("a name of its own: " + m, open.contains(m.getName()), false);
                CHECK.due("parameters of " + m, m.getParameterCount() <= 7, true);
            }
            fields(inside);
        }
        for (Method m : RatSorters.class.getDeclaredMethods()) {
            if (!Modifier.isPublic(m.getModifiers())) {
                CHECK.due("a name of its own: " + m, open.contains(m.getName()), false);
            }
        }
    }

    private static void fields(Class<?> owner) {
        int fields = 0;
        for (Field f : owner.getDeclaredFields()) {
            fields += Modifier.isStatic(f.getModifiers()) ? 0 : 1;
        }
        CHECK.due("some twenty fields: " + owner.getName(), fields <= 20, true);
    }
}
