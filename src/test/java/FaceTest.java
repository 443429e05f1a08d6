import java.lang.reflect.Constructor;
import java.lang.reflect.Field;
import java.lang.reflect.Method;
import java.lang.reflect.Modifier;
import java.util.Arrays;
import java.util.Set;
import java.util.TreeSet;

/** The public face: its members, with what they take, return and throw, and none beside them. */
public final class FaceTest {
    /** I IndexOutOfBoundsException, A IllegalArgumentException, S IllegalStateException. */
    private static final String[] DUE = {
        "boolean tell(int, int) IAS", "boolean take(int, int) IA", "int sow(int, int, int, int) IA",
        "int fill(int, int, int) IA", "int prune(int, int) IA", "int clear(int) I", "int least(int) I",
        "int loose(int) I", "int mix(int, int, int) IAS", "int copy(int, int) IA", "int turn(int) I", "int pack(int) I",
        "int poke(int, int) I", "int unpack(int) I", "int gather(int, int, int, int) IA", "int spread(int) I",
        "int listPoll(boolean) ", "int say(int) AS", "int hush() ", "int enter(int) I", "int step(int) A",
        "int back() ", "int knock() ", "boolean has(int, int) IA", "int ofNet(int, int) IA", "int below(int, int) IA",
        "int rank(int, int) IA", "int atRank(int, int) IA", "int pick(int, int) I", "int next(int, int, int) IA",
        "int letters(int, int) IA", "int firstLetter(int, int, boolean) IA", "int lettersBetween(int, int, int, int) IA",
        "String words(int, int, int) IA", "int count(int, int, int, int) IA", "int distance(int, int) A",
        "int nearest(int, int) IA", "int state(int, int) IA", "int line(int, int, int) IA", "int parting(int, int) I",
        "int common(int, int, int) IA", "boolean alike(int, int) I", "String text() ", "int sign(int) ",
        "int falls(int, int) IA", "int matches(int) I", "int match(int, int, int) IA", "int longest(int, int) I",
        "String cut(int) I", "int listed(int) A", "int ofList(int) A", "int listBetween(int, int) A", "int packed(int) I",
        "int ofPack(int) A", "int cursor(int) A", "boolean isSound() ", "long digest() "
    };
    private static final Check CHECK = new Check();

    public static void main(String[] args) {
        Set<String> due = new TreeSet<>(Arrays.asList(DUE));
        Set<String> got = new TreeSet<>();
        Set<String> publicNames = new TreeSet<>();
        Set<String> privateNames = new TreeSet<>();
        for (Method method : Wordnet.class.getDeclaredMethods()) {
            if (Modifier.isPrivate(method.getModifiers())) {
                privateNames.add(method.getName());
            } else {
                got.add(written(method));
                publicNames.add(method.getName());
            }
        }
        CHECK.same("methods", got, due);
        privateNames.retainAll(publicNames);
        CHECK.same("private methods with public names", privateNames.toString(), "[]");
        CHECK.same("the class", Modifier.toString(Wordnet.class.getModifiers()), "public final");
        CHECK.same("its package", Wordnet.class.getPackageName(), "");
        constructorsAndFields();
        CHECK.end();
    }

    private static String written(Method method) {
        StringBuilder out = new StringBuilder(method.getReturnType().getSimpleName());
        out.append(' ').append(method.getName()).append('(');
        String between = "";
        for (Class<?> type : method.getParameterTypes()) {
            out.append(between).append(type.getSimpleName());
            between = ", ";
        }
        out.append(") ");
        for (Class<?> type : method.getExceptionTypes()) {
            String name = type.getSimpleName();
            out.append(name.startsWith("Index") ? 'I' : name.equals("IllegalArgumentException") ? 'A' : 'S');
        }
        return out.toString();
    }

    private static void constructorsAndFields() {
        Constructor<?>[] all = Wordnet.class.getDeclaredConstructors();
        CHECK.same("constructors", all.length, 1);
        CHECK.same("the constructor", all[0].toString(), "public Wordnet()");
        for (Field field : Wordnet.class.getDeclaredFields()) {
            CHECK.same("private: " + field.getName(), Modifier.isPrivate(field.getModifiers()), true);
            boolean isFine = !Modifier.isStatic(field.getModifiers()) || Modifier.isFinal(field.getModifiers());
            CHECK.same("static is final: " + field.getName(), isFine, true);
        }
    }
}
