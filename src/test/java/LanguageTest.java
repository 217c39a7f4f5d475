import java.io.IOException;
import java.lang.reflect.Field;
import java.lang.reflect.Method;
import java.lang.reflect.Modifier;
import java.nio.file.Files;
import java.nio.file.Path;
import java.util.ArrayList;
import java.util.List;
import java.util.Set;
import java.util.TreeSet;
import java.util.regex.Matcher;
import java.util.regex.Pattern;

/** The rules of LANGUAGE.md that can be seen from outside: the face, the words, the lengths. */
public final class LanguageTest {
    private static final Set<String> FACE = Set.of("declare(3)", "variable(2)", "bound(3)", "parent(2)", "argument(2)",
            "make(2)", "array(1)", "about(2)", "below(2)", "erased(1)", "whole(1)", "above(2)", "member(2)", "feed(2)",
            "read(0)", "print(1)", "out(1)", "count(1)");
    private static int wrong = 0;

    private static void must(boolean holds, String what) {
        if (!holds) {
            wrong++;
            System.out.println(what);
        }
    }

    private static void face() {
        Set<String> seen = new TreeSet<>();
        for (Method method : TypeForms2.class.getDeclaredMethods()) {
            if (Modifier.isPublic(method.getModifiers())) {
                seen.add(method.getName() + "(" + method.getParameterCount() + ")");
                must(method.getReturnType() == int.class, method + " does not answer an int");
            } else {
                must(Modifier.isPrivate(method.getModifiers()), method + " is neither public nor private");
            }
        }
        must(seen.equals(new TreeSet<>(FACE)), "the face is " + seen);
        must(Modifier.isFinal(TypeForms2.class.getModifiers()), "the class is not final");
        Set<String> constants = new TreeSet<>();
        for (Field field : TypeForms2.class.getDeclaredFields()) {
            if (!Modifier.isPrivate(field.getModifiers())) {
                constants.add(field.getName());
            }
        }
        must(constants.equals(new TreeSet<>(Set.of("NONE", "UNKNOWN", "OUTSIDE", "ROOM"))), "constants " + constants);
    }

    private static void inside() {
        List<Class<?>> all = new ArrayList<>(List.of(TypeForms2.class.getDeclaredClasses()));
        must(all.size() < 12, "more than twelve classes");
        for (Class<?> type : all) {
            must(Modifier.isStatic(type.getModifiers()), type + " is not static");
            for (Method method : type.getDeclaredMethods()) {
                boolean ofFace = FACE.stream().anyMatch(f -> f.startsWith(method.getName() + "("));
                must(!ofFace, method + " bears a name of the face");
            }
        }
        all.add(TypeForms2.class);
        for (Class<?> type : all) {
            int fields = 0;
            for (Field field : type.getDeclaredFields()) {
                boolean constant = Modifier.isStatic(field.getModifiers());
                fields += constant ? 0 : 1;
                must(!constant || Modifier.isFinal(field.getModifiers()), field + " is static and not final");
            }
            must(fields <= 20, type + " has " + fields + " fields");
            for (Method method : type.getDeclaredMethods()) {
                must(method.getParameterCount() <= 7, method + " takes too many");
            }
        }
    }

    private static void words(String source) {
        String code = source.replaceAll("(?s)/\\*.*?\\*/", "").replaceAll("//[^\n]*", "").replaceAll("'.'", "0");
        Matcher word = Pattern.compile("\\b(throws?|try|catch|synchronized|assert|import|package|protected|double|float"
                + "|hashCode|equals|toString)\\b|->|::|\"|static\\s*\\{|\\bnew (?!int\\[|boolean\\[|[A-Z]\\w*\\()").matcher(code);
        while (word.find()) {
            must(false, "there is " + word.group());
        }
    }

    private static void lengths(List<String> lines) {
        for (int i = 0; i < lines.size(); i++) {
            Matcher head = Pattern.compile("^( {4}| {8})(?!private static final class|if|for|while)\\w.*\\) \\{$")
                    .matcher(lines.get(i));
            int end = i;
            while (head.matches() && end < lines.size() && !lines.get(end).equals(head.group(1) + "}")) {
                end++;
            }
            must(end - i < 60, lines.get(i).strip() + " has " + (end - i + 1) + " lines");
            must(lines.get(i).length() <= 120, "line " + (i + 1) + " is long");
        }
    }

    public static void main(String[] args) throws IOException {
        Path path = Path.of(args.length > 0 ? args[0] : "src/main/java/TypeForms2.java");
        face();
        inside();
        words(Files.readString(path));
        lengths(Files.readAllLines(path));
        System.out.println(wrong == 0 ? "the language is kept to" : wrong + " rules are not kept to");
        if (wrong != 0) {
            System.exit(1);
        }
    }
}
