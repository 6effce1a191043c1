import java.lang.reflect.Field;
import java.lang.reflect.Method;
import java.lang.reflect.Modifier;
import java.nio.file.Files;
import java.nio.file.Path;
import java.util.Arrays;
import java.util.TreeSet;
import java.util.regex.Matcher;
import java.util.regex.Pattern;

/** The class has the document's face and no other, and keeps to the plain words of LANGUAGE.md. */
public final class FaceTest {
    public static void main(String[] args) throws Exception {
        theClass();
        theMethods();
        theFields();
        theClassesInside();
        theWords();
        Due.end();
    }

    private static void theClass() {
        Class<?> c = CupByCup.class;
        Due.is("modifiers", c.getModifiers(), Modifier.PUBLIC | Modifier.FINAL);
        Due.is("constructors", c.getDeclaredConstructors().length, 1);
        String made = c.getDeclaredConstructors()[0].toString();
        Due.yes(made, made.equals("public CupByCup(int,int)"));
    }

    private static void theMethods() {
        TreeSet<String> due = new TreeSet<>(Arrays.asList(
                "int recipe(int,int)", "boolean alter(int,int,int)", "int store(int,int)",
                "int order(int,int,int)", "boolean take(int)", "int go(int)",
                "boolean fault(int,int)", "boolean limit(int)", "int tell(int,int)",
                "int cup(int,int)", "int group(int,int)", "int best(int)", "int sum()",
                "int count(int)"));
        TreeSet<String> names = new TreeSet<>();
        TreeSet<String> seen = new TreeSet<>();
        for (Method method : CupByCup.class.getDeclaredMethods()) {
            if (!Modifier.isPrivate(method.getModifiers())) {
                Due.is("modifiers of " + method, method.getModifiers(), Modifier.PUBLIC);
                names.add(method.getName());
                seen.add(method.toString().replace("public ", "").replace("CupByCup.", ""));
            }
        }
        Due.yes("methods " + seen, seen.equals(due));
        for (Method method : CupByCup.class.getDeclaredMethods()) {
            if (Modifier.isPrivate(method.getModifiers())) {
                Due.no("a public name: " + method, names.contains(method.getName()));
            }
        }
    }

    private static void theFields() {
        int seen = 0;
        for (Field field : CupByCup.class.getDeclaredFields()) {
            boolean isConstant = Modifier.isStatic(field.getModifiers());
            if (isConstant) {
                Due.yes("final: " + field, Modifier.isFinal(field.getModifiers()));
            } else {
                seen++;
            }
            if (!Modifier.isPrivate(field.getModifiers())) {
                Due.yes(field.toString(),
                        field.toString().equals("public static final int CupByCup.NONE"));
            }
        }
        Due.yes("some twenty fields: " + seen, seen <= 20);
    }

    private static void theClassesInside() {
        Class<?>[] inside = CupByCup.class.getDeclaredClasses();
        Due.yes("some twelve classes: " + inside.length, inside.length <= 12);
        for (Class<?> c : inside) {
            Due.yes("static: " + c, Modifier.isStatic(c.getModifiers()));
            Due.no("public: " + c, Modifier.isPublic(c.getModifiers()));
            Due.no("protected: " + c, Modifier.isProtected(c.getModifiers()));
        }
    }

    private static void theWords() throws Exception {
        String source = Files.readString(Path.of("src/main/java/CupByCup.java"));
        String code = source.replaceAll("(?s)/\\*.*?\\*/", "").replaceAll("//[^\n]*", "");
        Matcher word = Pattern.compile("\\b(package|import|throw|throws|try|catch|synchronized|"
                + "assert|Exact|Object|System\\.out|native|volatile)\\b|->|::").matcher(code);
        while (word.find()) {
            Due.is("LANGUAGE.md has no place for " + word.group(), 1, 0);
        }
    }
}
