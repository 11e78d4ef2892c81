import java.lang.reflect.Constructor;
import java.lang.reflect.Field;
import java.lang.reflect.Method;
import java.lang.reflect.Modifier;
import java.nio.file.Files;
import java.nio.file.Path;
import java.util.ArrayList;
import java.util.HashSet;
import java.util.List;
import java.util.Set;
import java.util.regex.Matcher;
import java.util.regex.Pattern;

/** The public face as the document has it, and those rules of LANGUAGE.md that can be looked up in the source. */
public final class FaceTest {
    private static final String[] FACE = {
        "int feed(int,int,int,int,int)", "int text(int)", "int fault(int)", "int named(int)", "int hand(int,int)",
        "int man(int,int)", "int letter(int,int)", "long law(int,int,int,int)", "int let(int,int,int,int)",
        "int end(int)", "int teach(int)", "int go(int)", "int ahead(int,int,int)", "int free(int)",
        "int apart(int,int)", "int like(int)", "int could(int,int)", "int match(int)", "int auction(int,int)",
        "int putOff()", "int ring(int,int)", "int lessons(int)", "int rests(int,int)", "int rest(int,int,int)",
        "long quiet(int,int)", "int see(int,int,int,int,boolean)", "int strike(int)", "boolean known(int)",
        "int wears()", "int ask(int,int)", "int chance(int,int,int)", "int tried(int,int,int)", "int undo()",
        "int keep()", "int back()", "int count(int)"};
    private static final String[] FORBIDDEN = {
        "\\bcatch\\b", "\\bfinally\\b", "\\bsynchronized\\b", "\\bassert\\b", "->", "::", "\\bdouble\\b", "\\bfloat\\b",
        "Exact\\(", "\\bSystem\\.(?!arraycopy)", "\\bThread\\b", "\\bRandom\\b", "\\bprotected\\b", "^package ",
        "^import (?!java\\.util\\.NoSuchElementException;)"};

    private static final Checks CHECKS = new Checks();

    public static void main(String[] args) throws Exception {
        members();
        source(Files.readString(Path.of("src/main/java/HandsLet.java")));
        CHECKS.finish();
    }

    private static void members() {
        Set<String> open = new HashSet<>();
        Set<String> openNames = new HashSet<>();
        List<Method> closed = new ArrayList<>();
        for (Method m : HandsLet.class.getDeclaredMethods()) {
            if (Modifier.isPrivate(m.getModifiers())) {
                closed.add(m);
            } else {
                CHECKS.due(m + " is public", Modifier.isPublic(m.getModifiers()) ? 1 : 0, 1);
                open.add(told(m));
                openNames.add(m.getName());
            }
        }
        for (String one : FACE) {
            CHECKS.due(one + " is there", open.contains(one) ? 1 : 0, 1);
        }
        CHECKS.due("no other method is open", open.size(), FACE.length);
        for (Class<?> inside : HandsLet.class.getDeclaredClasses()) {
            CHECKS.due(inside + " is static", Modifier.isStatic(inside.getModifiers()) ? 1 : 0, 1);
            CHECKS.due(inside + " has few fields", instanceFields(inside) <= 20 ? 1 : 0, 1);
            closed.addAll(List.of(inside.getDeclaredMethods()));
        }
        for (Method m : closed) {
            CHECKS.due(m + " bears no public name", openNames.contains(m.getName()) ? 1 : 0, 0);
            CHECKS.due(m + " takes seven at most", m.getParameterCount() <= 7 ? 1 : 0, 1);
        }
        for (Field f : HandsLet.class.getDeclaredFields()) {
            boolean open1 = !Modifier.isPrivate(f.getModifiers());
            CHECKS.due(f + " is open", open1 ? 1 : 0, f.getName().equals("NONE") ? 1 : 0);
        }
        for (Constructor<?> c : HandsLet.class.getDeclaredConstructors()) {
            CHECKS.due(c + " has no parameters", c.getParameterCount(), 0);
        }
        CHECKS.due("classes inside", HandsLet.class.getDeclaredClasses().length <= 11 ? 1 : 0, 1);
        CHECKS.due("final", Modifier.isFinal(HandsLet.class.getModifiers()) ? 1 : 0, 1);
    }

    private static int instanceFields(Class<?> one) {
        int many = 0;
        for (Field f : one.getDeclaredFields()) {
            many += Modifier.isStatic(f.getModifiers()) ? 0 : 1;
        }
        return many;
    }

    private static String told(Method m) {
        List<String> types = new ArrayList<>();
        for (Class<?> type : m.getParameterTypes()) {
            types.add(type.getName());
        }
        return m.getReturnType().getName() + " " + m.getName() + "(" + String.join(",", types) + ")";
    }

    private static void source(String source) {
        for (String one : FORBIDDEN) {
            Matcher found = Pattern.compile(one, Pattern.MULTILINE).matcher(source);
            CHECKS.due("source has " + one, found.find() ? 1 : 0, 0);
        }
        int start = 0;
        int line = 0;
        for (String text : source.split("\n")) {
            line++;
            if (text.matches(" {4}( {4})?[a-zA-Z].*\\).*\\{")) {
                start = line;
            }
            if (text.matches(" {4}( {4})?\\}")) {
                CHECKS.due("method up to line " + line + " is short", line - start <= 60 || start == 0 ? 1 : 0, 1);
                start = 0;
            }
        }
    }
}
