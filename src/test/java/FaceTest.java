import java.lang.reflect.Constructor;
import java.lang.reflect.Field;
import java.lang.reflect.Member;
import java.lang.reflect.Method;
import java.lang.reflect.Modifier;
import java.util.TreeSet;

/** The public face is the one of the document, and nothing else can be seen from outside. */
public final class FaceTest {
    private static final String[] FACE = {
        "int append(int)", "int clearText()", "int errorPosition()", "int load()",
        "int about(int)", "int line(int,int)", "int cell(int,int,int)", "int piece(int,int)",
        "int exchangeAt(int)", "int whyNot(int)", "int resize(int,int)",
        "boolean fill(int,int,boolean)", "boolean pin(int,int,boolean)", "int want(int,int)",
        "int wantAll()", "int exchange(int,int,int,int)", "int solve(int)", "int next()",
        "int turn()", "int undo()", "int howMany()", "int sure(boolean)", "int split()",
        "int nearest()", "int bestExchange()", "int runScript(int,long)",
        "int simulate(long,int)", "int save(int)", "int restore(int)"};

    private static String shown(Method method) {
        StringBuilder shown = new StringBuilder();
        for (Class<?> type : method.getParameterTypes()) {
            shown.append(shown.length() == 0 ? "" : ",").append(type.getName());
        }
        return method.getReturnType() + " " + method.getName() + "(" + shown + ")";
    }

    private static boolean isHidden(Member member) {
        return Modifier.isPrivate(member.getModifiers());
    }

    public static void main(String[] args) throws ReflectiveOperationException {
        Class<?> type = CountedCells.class;
        TreeSet<String> seen = new TreeSet<>();
        TreeSet<String> names = new TreeSet<>();
        for (Method method : type.getDeclaredMethods()) {
            if (!isHidden(method)) {
                Checks.is(method + " is public", true, Modifier.isPublic(method.getModifiers()));
                Checks.is(method + " is of an object", false,
                    Modifier.isStatic(method.getModifiers()));
                seen.add(shown(method));
                names.add(method.getName());
            }
        }
        Checks.is("methods", new TreeSet<>(java.util.List.of(FACE)).toString(), seen.toString());
        for (Method method : type.getDeclaredMethods()) {
            Checks.is(method + " bears no public name", false,
                isHidden(method) && names.contains(method.getName()));
        }
        for (Field field : type.getDeclaredFields()) {
            Checks.is(field + " is hidden", !field.getName().equals("NONE"), isHidden(field));
        }
        Checks.is("NONE", CountedCells.NONE, type.getField("NONE").getInt(null));
        Checks.is("constructors", 1, type.getDeclaredConstructors().length);
        Constructor<?> constructor = type.getConstructor();
        Checks.is("constructor is public", true, Modifier.isPublic(constructor.getModifiers()));
        Checks.is("class is final", true, Modifier.isFinal(type.getModifiers()));
        for (Class<?> inside : type.getDeclaredClasses()) {
            Checks.is(inside + " is private", true, Modifier.isPrivate(inside.getModifiers()));
            Checks.is(inside + " is static", true, Modifier.isStatic(inside.getModifiers()));
        }
        Checks.end();
    }
}
