import java.lang.reflect.Constructor;
import java.lang.reflect.Field;
import java.lang.reflect.Member;
import java.lang.reflect.Method;
import java.lang.reflect.Modifier;
import java.util.Set;
import java.util.TreeSet;

/** The class has the document's face, and nothing else can be seen of it. */
final class FaceTest {
    private static final Set<String> FACE = Set.of(
        "int write(long,int)", "int erase()", "int fault()", "int field()", "int square(int)", "int hedge(int)",
        "int night(int,int)", "int sides(int)", "long edges(int)", "int yards(int)", "int fold(int)", "int clear()",
        "int judge()", "int why()", "int moved(int,int)", "int few(int,int)", "int two(int,int,int)",
        "int fewest(int)", "int best(int,int,int)", "int courses(int,int)", "int round(int)", "int broken(int,int)",
        "int goes(boolean,int,int)", "int count(int)");

    public static void main(String[] args) {
        Set<String> seen = new TreeSet<>();
        for (Method method : MovedFold.class.getDeclaredMethods()) {
            if (isSeen(method)) {
                seen.add(told(method));
            }
        }
        Check.due("methods " + seen, seen.equals(FACE) ? 1 : 0, 1);
        for (Field field : MovedFold.class.getDeclaredFields()) {
            if (isSeen(field)) {
                int form = Modifier.PUBLIC | Modifier.STATIC | Modifier.FINAL;
                Check.due("form of " + field.getName(), field.getModifiers(), form);
                Check.due("known " + field.getName(),
                    Set.of("NONE", "UNKNOWN", "OUTSIDE", "NOT", "FULL").contains(field.getName()) ? 1 : 0, 1);
            }
        }
        Constructor<?>[] constructors = MovedFold.class.getDeclaredConstructors();
        Check.due("constructors", constructors.length, 1);
        Check.due("constructor is public", Modifier.isPublic(constructors[0].getModifiers()) ? 1 : 0, 1);
        Check.due("constructor's parameters", constructors[0].getParameterCount(), 0);
        int form = Modifier.PUBLIC | Modifier.FINAL;
        Check.due("form of the class", MovedFold.class.getModifiers(), form);
        Check.due("NONE", MovedFold.NONE, -1);
        Check.due("UNKNOWN", MovedFold.UNKNOWN, -2);
        Check.due("OUTSIDE", MovedFold.OUTSIDE, -3);
        Check.due("NOT", MovedFold.NOT, -4);
        Check.due("FULL", MovedFold.FULL, -5);
        Check.end();
    }

    private static boolean isSeen(Member member) {
        return !Modifier.isPrivate(member.getModifiers()) && !member.isSynthetic();
    }

    private static String told(Method method) {
        StringBuilder told = new StringBuilder(method.getReturnType().getName());
        told.append(' ').append(method.getName()).append('(');
        String between = "";
        for (Class<?> type : method.getParameterTypes()) {
            told.append(between).append(type.getName());
            between = ",";
        }
        return told.append(')').toString();
    }
}
