import java.io.IOException;
import java.lang.reflect.Constructor;
import java.lang.reflect.Field;
import java.lang.reflect.Method;
import java.lang.reflect.Modifier;
import java.nio.file.Files;
import java.nio.file.Path;
import java.util.Set;
import java.util.TreeSet;

/** The class has the document's face and nothing more, and keeps to the rules of LANGUAGE.md that can be seen from outside. */
public final class FaceTest {

    private static final Runs RUNS = new Runs();

    public static void main(String[] args) throws IOException {
        face();
        signatures();
        members();
        source();
        RUNS.end();
    }

    private static void face() throws IOException {
        Set<String> due = new TreeSet<>();
        for (String line : Files.readAllLines(Path.of("../shared/DOC.md"))) {
            String told = line.strip();
            if (told.startsWith("public ") && told.endsWith(";")) {
                due.add(withoutNames(told.substring("public ".length(), told.length() - 1)));
            }
        }
        Set<String> found = new TreeSet<>();
        for (Method method : Rangeledger.class.getDeclaredMethods()) {
            if (Modifier.isPublic(method.getModifiers())) {
                found.add(method.getReturnType().getSimpleName() + " " + method.getName()
                    + "(" + names(method.getParameterTypes()) + ")" + thrown(method.getExceptionTypes()));
            }
        }
        for (Constructor<?> constructor : Rangeledger.class.getDeclaredConstructors()) {
            found.add("Rangeledger(" + names(constructor.getParameterTypes()) + ")" + thrown(constructor.getExceptionTypes()));
        }
        RUNS.check("the face", found, due);
        RUNS.check("how many calls the face has", due.size(), 54);
    }

    /** Word by word, with the parameters' names, which the compiled class does not have. */
    private static void signatures() throws IOException {
        String source = Files.readString(Path.of("src/main/java/Rangeledger.java")).replaceAll("\\s+", " ");
        for (int number = 1; number <= Doc.PROMISES; number++) {
            String signature = "public " + Doc.signature(number) + " {";
            RUNS.check("promise " + number + ", " + signature, source.contains(signature), true);
        }
    }

    private static String withoutNames(String signature) {
        int open = signature.indexOf('(');
        int close = signature.indexOf(')');
        String inside = signature.substring(open + 1, close).replaceAll("(int|boolean) \\w+", "$1");
        return signature.substring(0, open + 1) + inside + signature.substring(close);
    }

    private static String names(Class<?>[] types) {
        StringBuilder names = new StringBuilder();
        for (Class<?> type : types) {
            names.append(names.isEmpty() ? "" : ", ").append(type.getSimpleName());
        }
        return names.toString();
    }

    private static String thrown(Class<?>[] types) {
        return types.length == 0 ? "" : " throws " + names(types);
    }

    private static void members() {
        RUNS.check("final", Modifier.isFinal(Rangeledger.class.getModifiers()), true);
        Set<String> publicNames = new TreeSet<>();
        for (Method method : Rangeledger.class.getDeclaredMethods()) {
            boolean isPublic = Modifier.isPublic(method.getModifiers());
            RUNS.check(method + " is public or private", isPublic || Modifier.isPrivate(method.getModifiers()), true);
            if (isPublic) {
                publicNames.add(method.getName());
            }
        }
        for (Field field : Rangeledger.class.getDeclaredFields()) {
            RUNS.check(field + " is private", Modifier.isPrivate(field.getModifiers()), true);
        }
        Class<?>[] inside = Rangeledger.class.getDeclaredClasses();
        RUNS.check("at most 12 classes", inside.length < 12, true);
        rulesOf(Rangeledger.class, publicNames);
        for (Class<?> one : inside) {
            RUNS.check(one + " is static", Modifier.isStatic(one.getModifiers()), true);
            RUNS.check(one + " is not public", Modifier.isPublic(one.getModifiers()), false);
            rulesOf(one, publicNames);
        }
    }

    private static void rulesOf(Class<?> one, Set<String> publicNames) {
        int fields = 0;
        for (Field field : one.getDeclaredFields()) {
            boolean isStatic = Modifier.isStatic(field.getModifiers());
            fields += isStatic ? 0 : 1;
            RUNS.check(field + ": static fields are final", !isStatic || Modifier.isFinal(field.getModifiers()), true);
        }
        RUNS.check(one + " has at most 20 fields", fields <= 20, true);
        for (Method method : one.getDeclaredMethods()) {
            boolean isFace = one == Rangeledger.class && Modifier.isPublic(method.getModifiers());
            RUNS.check(method + " bears no name of the face", isFace || !publicNames.contains(method.getName()), true);
            RUNS.check(method + " takes at most 7", method.getParameterCount() <= 7, true);
        }
    }

    private static void source() throws IOException {
        String source = Files.readString(Path.of("src/main/java/Rangeledger.java"));
        String code = source.replaceAll("(?s)/\\*.*?\\*/", "").replaceAll("//.*", "");
        for (String word : new String[] {"import", "package", "finally", "synchronized", "assert", "catch", "while", "Exact",
                "Random", "Thread", "System.out", "System.nanoTime", "->", "::", "equals(", "hashCode", "\" +", "+ \""}) {
            RUNS.check("no " + word, code.contains(word), false);
        }
        RUNS.check("only signs 1 to 127", source.chars().allMatch(sign -> sign < 128), true);
    }
}
