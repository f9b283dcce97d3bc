import java.io.IOException;
import java.lang.reflect.Constructor;
import java.lang.reflect.Field;
import java.lang.reflect.Method;
import java.lang.reflect.Modifier;
import java.nio.file.Files;
import java.nio.file.Path;
import java.util.Set;
import java.util.TreeSet;
import java.util.regex.Matcher;
import java.util.regex.Pattern;

/** The face of the class is the document's, and what LANGUAGE.md rules out and a plain look can find is not in it. */
final class LanguageTest {
    private static final Set<String> FACE = Set.of("int feed(int int int int int)", "int end(int)", "int town()",
            "int plan()", "int fault(int)", "int minutes(int int)", "int right(int int int)", "int judge(int)",
            "int value(int)", "int best(int)", "int bestAt(int int int)", "int breaks(int int)", "int spare(int int)",
            "int often(int int)", "int built(int int int)", "int meet(int int int)", "int mend()", "int where(int)",
            "boolean send(int int)", "int strike()", "int count(int int int)", "boolean untell(int)", "int later(int)",
            "int states(int int)", "int sure(int int int int)", "int image(int)", "int back(int)", "int about(int)");
    private static final int MOST_PARAMETERS = 7;

    public static void main(String[] args) throws IOException {
        looksAtTheFace();
        looksAtTheClasses();
        String source = Files.readString(Path.of(args.length > 0 ? args[0] : "src/main/java/EvenTown.java"));
        looksAtTheWords(source.replaceAll("(?s)/\\*.*?\\*/", "").replaceAll("//.*", ""));
        Check.close();
    }

    private static void looksAtTheFace() {
        Check.sentence("1. The face");
        int kind = EvenTown.class.getModifiers();
        Check.due("public and final", Modifier.isPublic(kind) && Modifier.isFinal(kind), true);
        Set<String> face = new TreeSet<>();
        for (Method method : EvenTown.class.getDeclaredMethods()) {
            if (Modifier.isPublic(method.getModifiers())) {
                face.add(told(method));
            } else {
                Check.due("private: " + method, Modifier.isPrivate(method.getModifiers()), true);
            }
        }
        Check.due("methods: " + face, face.equals(FACE), true);
        Constructor<?>[] makers = EvenTown.class.getDeclaredConstructors();
        Check.due("one constructor", makers.length, 1);
        Check.due("it is public", Modifier.isPublic(makers[0].getModifiers()), true);
        Check.due("it takes nothing", makers[0].getParameterCount(), 0);
        for (Field field : EvenTown.class.getDeclaredFields()) {
            boolean open = field.getName().equals("NONE") || field.getName().equals("GAP");
            Check.due("public: " + field, Modifier.isPublic(field.getModifiers()), open);
            Check.due("private: " + field, Modifier.isPrivate(field.getModifiers()), !open);
            looksAtAField(field);
        }
    }

    private static String told(Method method) {
        StringBuilder told = new StringBuilder(method.getReturnType().getName()).append(' ').append(method.getName());
        String between = "(";
        for (Class<?> type : method.getParameterTypes()) {
            told.append(between).append(type.getName());
            between = " ";
        }
        return told.append(between.equals("(") ? "()" : ")").toString();
    }

    private static void looksAtAField(Field field) {
        if (Modifier.isStatic(field.getModifiers())) {
            Check.due("5. final: " + field, Modifier.isFinal(field.getModifiers()), true);
        }
    }

    private static void looksAtTheClasses() {
        Check.sentence("2. Classes inside; 11. A method takes at most seven parameters");
        looksAtMethods(EvenTown.class);
        for (Class<?> inside : EvenTown.class.getDeclaredClasses()) {
            int kind = inside.getModifiers();
            Check.due("static: " + inside, Modifier.isStatic(kind), true);
            Check.due("not public, not protected: " + inside, Modifier.isPublic(kind) || Modifier.isProtected(kind), false);
            for (Field field : inside.getDeclaredFields()) {
                looksAtAField(field);
            }
            looksAtMethods(inside);
        }
    }

    private static void looksAtMethods(Class<?> type) {
        for (Method method : type.getDeclaredMethods()) {
            Check.due("seven parameters: " + method, method.getParameterCount() <= MOST_PARAMETERS, true);
            boolean hidden = Modifier.isPrivate(method.getModifiers());
            Check.due("1. no private one bears a public one's name: " + method, hidden && isInFace(method.getName()), false);
        }
    }

    private static boolean isInFace(String name) {
        for (String told : FACE) {
            if (told.contains(" " + name + "(")) {
                return true;
            }
        }
        return false;
    }

    private static void looksAtTheWords(String code) {
        Check.sentence("3. to 13.");
        for (String word : new String[] {"throw", "throws", "try", "catch", "synchronized", "assert", "package", "protected",
            "hashCode", "Object", "Random", "Thread", "volatile"}) {
            none("\\b" + word + "\\b", code);
        }
        none("Exact\\(", code);
        none("System\\.(?!arraycopy)", code);
        none("::", code);
        none("[^\\x00-\\x7f]", code);
        Matcher imports = Pattern.compile("import ([\\w.]+);").matcher(code);
        Set<String> known = Set.of("java.util.Arrays", "java.util.ArrayList", "java.util.List", "java.util.Iterator");
        while (imports.find()) {
            Check.due("import " + imports.group(1), known.contains(imports.group(1)), true);
        }
    }

    private static void none(String pattern, String code) {
        Matcher matcher = Pattern.compile(pattern).matcher(code);
        Check.due("the class has " + pattern, matcher.find(), false);
    }

    private LanguageTest() {
    }
}
