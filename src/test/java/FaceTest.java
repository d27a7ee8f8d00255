import java.lang.reflect.Constructor;
import java.lang.reflect.Field;
import java.lang.reflect.Member;
import java.lang.reflect.Method;
import java.lang.reflect.Modifier;
import java.util.ArrayList;
import java.util.List;
import java.util.Set;
import java.util.TreeSet;

/** 'The public face': the members of the document, and none beside them that is not private. */
public final class FaceTest {
    private static final Set<String> FACE = Set.of(
            "public static final int MeanCycles.NONE",
            "public static final int MeanCycles.BAD",
            "public MeanCycles(int)",
            "public boolean MeanCycles.arc(int,int,int,int)",
            "public boolean MeanCycles.cut(int,int)",
            "public int MeanCycles.meanTop()",
            "public int MeanCycles.meanBottom()",
            "public int MeanCycles.ratioTop()",
            "public int MeanCycles.ratioBottom()",
            "public boolean MeanCycles.meanArc(int,int)",
            "public boolean MeanCycles.ratioArc(int,int)",
            "public int MeanCycles.meanPoints()",
            "public boolean MeanCycles.steady(int)",
            "public int MeanCycles.onCircle()");

    public static void main(String[] args) {
        constants();
        members();
        theClass();
        Due.end();
    }

    private static void constants() {
        Due.is("NONE", MeanCycles.NONE, -1000);
        Due.is("BAD", MeanCycles.BAD, -1001);
    }

    private static void members() {
        Set<String> left = new TreeSet<>(FACE);
        for (Member member : declared()) {
            if (!Modifier.isPrivate(member.getModifiers())) {
                Due.is("the document has '" + member + "'", left.remove(member.toString()), true);
            }
        }
        for (String missing : left) {
            Due.is("the class has '" + missing + "'", false, true);
        }
    }

    private static List<Member> declared() {
        List<Member> members = new ArrayList<>();
        for (Constructor<?> constructor : MeanCycles.class.getDeclaredConstructors()) {
            members.add(constructor);
        }
        for (Method method : MeanCycles.class.getDeclaredMethods()) {
            members.add(method);
        }
        for (Field field : MeanCycles.class.getDeclaredFields()) {
            members.add(field);
        }
        return members;
    }

    private static void theClass() {
        int modifiers = MeanCycles.class.getModifiers();
        Due.is("the class is public", Modifier.isPublic(modifiers), true);
        Due.is("the class is final", Modifier.isFinal(modifiers), true);
        Due.is("classes inside it", MeanCycles.class.getDeclaredClasses().length, 0);
    }
}
