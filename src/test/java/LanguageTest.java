import java.io.IOException;
import java.lang.reflect.Constructor;
import java.lang.reflect.Field;
import java.lang.reflect.Method;
import java.lang.reflect.Modifier;
import java.nio.file.Files;
import java.nio.file.Path;
import java.util.ArrayList;
import java.util.Arrays;
import java.util.List;
import java.util.Set;
import java.util.TreeSet;

/** The face as the document has it, and those rules of LANGUAGE.md that can be seen from outside. */
public final class LanguageTest {
    private static final String[] FACE = {
        "int feed(int,int,int,int,int)", "boolean end(int)", "int fault(int)", "int text(int)",
        "int child(int,int)", "int elder(int,int)", "int rule(int)", "boolean law(int)", "boolean fever(int)",
        "int passes(int,int)", "int slips(int,int)", "int examiner()", "int teach(int,int)", "int wrong(int,int)",
        "int keep(int,int,boolean)", "int buy(int,int)", "int months(int)", "int fevers(int,long)", "int undo()",
        "int log(int,int)", "int ahead(int,int)", "int reign(int,int,int)", "int plan(int,int,int)",
        "int keepers(int,int,int)", "int plums(int)", "int peace(int,int)", "int duel(int,int,int,int)",
        "int rests(int,int,int)", "int teachers(int,int)", "int spans(int,int)", "int chain(int)", "int threes()",
        "int party(int)", "int heir()", "int late()", "int before(int)", "int without(int)", "int spoil(int)",
        "int soon(int)", "int fevered()", "int youngest(int)", "int richest(int,int)", "int rivals(int)",
        "int forgotten()", "int image()", "int back()", "int count(int)",
    };
    private static final String[] FORBIDDEN = {
        "catch", "finally", "->", "::", "synchronized", "assert ", "double ", "float ", "Exact(", "instanceof",
        "System.out", "System.err", "System.nano", "System.current", "Random", "Thread", "@Suppress", "protected ",
    };
    private static final List<Class<?>> CONSTANTS =
        Arrays.asList(int.class, long.class, boolean.class, char.class, String.class, int[].class, long[].class, char[].class, byte[].class);

    private LanguageTest() {
    }

    public static void main(String[] args) throws IOException {
        face();
        classes();
        source(Files.readAllLines(Path.of("src/main/java/CountRule.java")));
        Check.close();
    }

    private static void is(String what, boolean holds) {
        Check.due(what, holds, true);
    }

    private static String signature(Method method) {
        StringBuilder text = new StringBuilder(method.getReturnType().getName()).append(' ').append(method.getName()).append('(');
        for (Class<?> type : method.getParameterTypes()) {
            text.append(text.charAt(text.length() - 1) == '(' ? "" : ",").append(type.getName());
        }
        return text.append(')').toString();
    }

    private static void face() {
        Class<?> face = CountRule.class;
        is("the class is public and final", Modifier.isPublic(face.getModifiers()) && Modifier.isFinal(face.getModifiers()));
        Constructor<?>[] constructors = face.getDeclaredConstructors();
        is("one public constructor", constructors.length == 1 && Modifier.isPublic(constructors[0].getModifiers())
            && constructors[0].getParameterCount() == 0);
        Set<String> shown = new TreeSet<>();
        Set<String> names = new TreeSet<>();
        for (Method method : face.getDeclaredMethods()) {
            if (!Modifier.isPrivate(method.getModifiers())) {
                is(method + " is public and of an object", Modifier.isPublic(method.getModifiers()) && !Modifier.isStatic(method.getModifiers()));
                shown.add(signature(method));
                names.add(method.getName());
            }
        }
        Check.due("methods of the face", shown.equals(new TreeSet<>(Arrays.asList(FACE))), true);
        for (Method method : face.getDeclaredMethods()) {
            is(method + " bears no public one's name", !Modifier.isPrivate(method.getModifiers()) || !names.contains(method.getName()));
        }
        for (Field field : face.getDeclaredFields()) {
            boolean constant = field.getName().equals("NONE") || field.getName().equals("HIDDEN");
            is(field + " is shown as the document says", constant == Modifier.isPublic(field.getModifiers())
                && (constant || Modifier.isPrivate(field.getModifiers())));
        }
        for (Class<?> inner : face.getDeclaredClasses()) {
            for (Method method : inner.getDeclaredMethods()) {
                is(method + " bears no public one's name", !names.contains(method.getName()));
            }
        }
    }

    private static void classes() {
        List<Class<?>> all = new ArrayList<>(Arrays.asList(CountRule.class.getDeclaredClasses()));
        for (Class<?> inner : all) {
            is(inner + " is static and not shown", Modifier.isStatic(inner.getModifiers())
                && !Modifier.isPublic(inner.getModifiers()) && !Modifier.isProtected(inner.getModifiers()));
            is(inner + " has none inside it", inner.getDeclaredClasses().length == 0);
        }
        all.add(CountRule.class);
        is("at most twelve classes", all.size() <= 12);
        for (Class<?> one : all) {
            int fields = 0;
            for (Field field : one.getDeclaredFields()) {
                if (!Modifier.isStatic(field.getModifiers())) {
                    fields++;
                } else {
                    is(field + " is a constant", Modifier.isFinal(field.getModifiers()) && CONSTANTS.contains(field.getType()));
                }
            }
            is(one + " has at most twenty fields", fields <= 20);
            for (Method method : one.getDeclaredMethods()) {
                is(method + " takes at most seven", method.getParameterCount() <= 7);
            }
        }
    }

    private static void source(List<String> lines) {
        int methodFrom = 0;
        int throwing = 0;
        for (int i = 0; i < lines.size(); i++) {
            String line = lines.get(i);
            String where = "line " + (i + 1) + ": " + line.trim();
            String code = line.trim().startsWith("//") || line.trim().startsWith("*") || line.trim().startsWith("/**") ? "" : line;
            for (String word : FORBIDDEN) {
                is(where + " has no " + word, !code.contains(word));
            }
            is(where + " imports what it may", !line.startsWith("import") || line.equals("import java.util.NoSuchElementException;"));
            throwing += code.contains("throw new") ? 1 : 0;
            is(where + " has plain signs", line.chars().allMatch(sign -> sign < 128));
            if (line.matches(" {4}(?: {4})?\\S.*\\) (throws NoSuchElementException )?\\{")) {
                methodFrom = i;
            }
            if (line.matches(" {4}(?: {4})?\\}")) {
                is(where + " ends a short method", i - methodFrom < 60 || lines.get(methodFrom).isEmpty());
                methodFrom = i;
            }
        }
        Check.due("throw statements", throwing, 1);
    }
}
