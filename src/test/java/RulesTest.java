import java.io.IOException;
import java.lang.reflect.Constructor;
import java.lang.reflect.Field;
import java.lang.reflect.Method;
import java.lang.reflect.Modifier;
import java.nio.file.Files;
import java.nio.file.Path;
import java.util.ArrayList;
import java.util.List;
import java.util.Set;
import java.util.TreeSet;
import java.util.regex.Matcher;
import java.util.regex.Pattern;

/** The rules of LANGUAGE.md that can be looked up in the source or in the class. */
public final class RulesTest {
    private static final Check CHECK = new Check("RulesTest");
    private static final String[] FACE = {
        "int feed(int,int,int,int,int)", "int plate(int)", "int fault(int)", "int cake(int,int)", "int why(int)",
        "int by(int,int)", "int habit()", "int turn(int)", "int habits(int)", "int heat(int)", "int undo(int)",
        "int judge(int,int)", "int perform(int)", "int breakfast(int,int)", "int cheapest(int,int)",
        "int way(int,int)", "long rows(int,int)", "int hardest(int,int)", "int asHard(int,int)", "int stands()",
        "int at(long)", "int round(int)", "int tidy()", "int soon()", "int lies(int)", "int stack(int,int)",
        "long seen(int)", "int seenBy(int,int)", "int turned(int,int)", "int heats(int)", "int attempt(int)",
        "int forces(int)", "int best(int)", "int chance(int,int,int)", "int mean(int,int)",
        "int numbers(int,int,int)", "long write(int,int,long)", "int lists(int,int)", "int image(int)",
        "int restore(int)", "int count(int)"};

    public static void main(String[] args) throws IOException {
        face();
        classes();
        String source = Files.readString(Path.of("src/main/java/GriddleTurn.java"));
        forbidden(stripped(source));
        CHECK.end();
    }

    private static void none(String what, boolean broken) {
        CHECK.due(what, 0, broken ? 1 : 0);
    }

    private static String signature(Method method) {
        List<String> types = new ArrayList<>();
        for (Class<?> type : method.getParameterTypes()) {
            types.add(type.getName());
        }
        return method.getReturnType().getName() + " " + method.getName() + "(" + String.join(",", types) + ")";
    }

    private static void face() {
        Set<String> due = new TreeSet<>(List.of(FACE));
        Set<String> found = new TreeSet<>();
        for (Method method : GriddleTurn.class.getDeclaredMethods()) {
            if (Modifier.isPublic(method.getModifiers())) {
                found.add(signature(method));
            } else {
                none("not private: " + method, !Modifier.isPrivate(method.getModifiers()));
            }
        }
        none("the face is " + found, !found.equals(due));
        for (Constructor<?> constructor : GriddleTurn.class.getDeclaredConstructors()) {
            none("constructor " + constructor, constructor.getParameterCount() != 0);
        }
        none("public and final", !Modifier.isFinal(GriddleTurn.class.getModifiers()));
        for (Field field : GriddleTurn.class.getDeclaredFields()) {
            boolean constant = field.getName().equals("NONE");
            none("field " + field, Modifier.isPublic(field.getModifiers()) != constant);
            none("field " + field, !constant && !Modifier.isPrivate(field.getModifiers()));
        }
    }

    private static void classes() {
        Set<String> publicNames = new TreeSet<>();
        for (String signature : FACE) {
            publicNames.add(signature.replaceAll("\\w+ (\\w+)\\(.*", "$1"));
        }
        Class<?>[] inside = GriddleTurn.class.getDeclaredClasses();
        none("classes", inside.length + 1 > 12);
        for (Class<?> one : inside) {
            none("static " + one, !Modifier.isStatic(one.getModifiers()) || Modifier.isPublic(one.getModifiers()));
            int fields = 0;
            for (Field field : one.getDeclaredFields()) {
                boolean isStatic = Modifier.isStatic(field.getModifiers());
                fields += isStatic ? 0 : 1;
                none("static state " + field, isStatic && !Modifier.isFinal(field.getModifiers()));
            }
            none("fields of " + one, fields > 20);
            for (Method method : one.getDeclaredMethods()) {
                none("name of a public one: " + method, publicNames.contains(method.getName()));
                none("parameters: " + method, method.getParameterCount() > 7);
            }
        }
        for (Method method : GriddleTurn.class.getDeclaredMethods()) {
            boolean hidden = Modifier.isPrivate(method.getModifiers());
            none("name of a public one: " + method, hidden && publicNames.contains(method.getName()));
        }
    }

    private static String stripped(String source) {
        return source.replaceAll("(?s)/\\*.*?\\*/", "").replaceAll("//[^\n]*", "")
                .replaceAll("\"[^\"]*\"", "\"\"").replaceAll("'\\\\?.'", "' '");
    }

    private static void forbidden(String source) {
        String[] words = {"throw", "throws", "try", "catch", "finally", "synchronized", "assert", "import", "package",
            "new String", "Object", "System\\.(?!arraycopy)", "\\w+Exact", "->", "::", "protected", "enum", "List"};
        for (String word : words) {
            Matcher matcher = Pattern.compile((word.matches("\\w.*") ? "\\b" : "") + word
                    + (word.matches(".*\\w") ? "\\b" : "")).matcher(source);
            none("there is: " + word, matcher.find());
        }
        int length = 0;
        String name = "";
        for (String line : source.split("\n")) {
            boolean begins = line.matches("    (    )?(public|private|static|boolean|int|long|void|[A-Z]\\w*)\\b[^=;]*\\) \\{");
            if (begins) {
                length = 0;
                name = line.strip();
            }
            length++;
            none("long: " + name, line.matches("    (    )?\\}") && length > 60 && !name.isEmpty());
            if (line.matches("    (    )?\\}")) {
                name = "";
            }
        }
        none("signs", !source.matches("[\\x00-\\x7f]*"));
    }
}
