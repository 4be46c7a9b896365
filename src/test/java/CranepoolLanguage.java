import java.io.IOException;
import java.lang.reflect.Constructor;
import java.lang.reflect.Field;
import java.lang.reflect.Method;
import java.lang.reflect.Modifier;
import java.nio.file.Files;
import java.nio.file.Path;
import java.util.Arrays;
import java.util.HashSet;
import java.util.Set;
import java.util.TreeSet;
import java.util.regex.Matcher;
import java.util.regex.Pattern;

/** Checks the face against the document, and rules of LANGUAGE.md that can be read off the class or its text. */
public final class CranepoolLanguage {
    private static final Path SOURCE = Path.of("src/main/java/Cranepool.java");
    private static final Path DOCUMENT = Path.of("../shared/DOC.md");
    /** Words that the rules leave no room for, or that the program does without. */
    private static final String[] UNUSED = {"finally", "synchronized", "assert", "catch", "try", "goto", "volatile",
        "transient", "native", "strictfp", "System", "Math\\.\\w+Exact", "equals", "hashCode", "toString", "protected",
        "->", "::", "package", "NaN", "Thread", "Object", "instanceof"};
    private static final int MOST_LINES = 60;
    private static final int MOST_FIELDS = 20;
    private static final int MOST_CLASSES = 12;
    private static final int MOST_PARAMETERS = 7;

    private static int wrong;

    private static void check(boolean holds, String what) {
        if (!holds) {
            wrong++;
            System.out.println(what);
        }
    }

    public static void main(String[] args) throws IOException {
        String text = Files.readString(SOURCE);
        Set<String> face = face();
        check(face.size() == 43, "the document's face has " + face.size() + " methods");
        checkMembers(face);
        checkNested();
        checkWords(withoutComments(text));
        checkLengths(text);
        System.out.println(wrong == 0 ? "the face and the text are as the rules ask" : wrong + " faults");
        if (wrong > 0) {
            System.exit(1);
        }
    }

    /** The methods of the document's face: kind of answer, name, kinds of numbers, exceptions. */
    private static Set<String> face() throws IOException {
        Set<String> face = new TreeSet<>();
        Matcher line = Pattern.compile("(?m)^    public (\\w+) (\\w+)\\(([^)]*)\\)(?: throws ([^;]+))?;$")
            .matcher(Files.readString(DOCUMENT));
        while (line.find()) {
            String numbers = line.group(3).replaceAll("(\\w+) \\w+", "$1");
            String thrown = line.group(4) == null ? "" : line.group(4);
            face.add(line.group(1) + " " + line.group(2) + "(" + numbers + ") " + thrown);
        }
        return face;
    }

    private static void checkMembers(Set<String> face) {
        Set<String> found = new TreeSet<>();
        Set<String> names = new HashSet<>();
        for (Method method : Cranepool.class.getDeclaredMethods()) {
            if (!Modifier.isPrivate(method.getModifiers())) {
                found.add(told(method));
                names.add(method.getName());
            }
        }
        check(found.equals(face), "public methods are " + found + ", due are " + face);
        for (Class<?> part : allClasses()) {
            for (Method method : part.getDeclaredMethods()) {
                boolean outer = part == Cranepool.class && !Modifier.isPrivate(method.getModifiers());
                check(outer || !names.contains(method.getName()), "bears a public name: " + method);
                int numbers = method.getParameterCount();
                check(outer || numbers <= MOST_PARAMETERS, "too many parameters: " + method);
            }
        }
        int modifiers = Cranepool.class.getModifiers();
        check(Modifier.isPublic(modifiers) && Modifier.isFinal(modifiers), "the class is public and final");
        Constructor<?>[] constructors = Cranepool.class.getDeclaredConstructors();
        check(constructors.length == 1 && constructors[0].getParameterCount() == 0
            && Modifier.isPublic(constructors[0].getModifiers()), "one public constructor without numbers");
        for (Field field : Cranepool.class.getDeclaredFields()) {
            check(Modifier.isPrivate(field.getModifiers()), "not private: " + field);
        }
    }

    private static String told(Method method) {
        StringBuilder told = new StringBuilder(method.getReturnType().getSimpleName());
        told.append(' ').append(method.getName()).append('(');
        String numbers = Arrays.toString(Arrays.stream(method.getParameterTypes()).map(Class::getSimpleName).toArray());
        told.append(numbers, 1, numbers.length() - 1).append(") ");
        String thrown = Arrays.toString(Arrays.stream(method.getExceptionTypes()).map(Class::getSimpleName).toArray());
        return told.append(thrown, 1, thrown.length() - 1).toString();
    }

    private static Class<?>[] allClasses() {
        Class<?>[] nested = Cranepool.class.getDeclaredClasses();
        Class<?>[] all = Arrays.copyOf(nested, nested.length + 1);
        all[nested.length] = Cranepool.class;
        return all;
    }

    private static void checkNested() {
        Class<?>[] all = allClasses();
        check(all.length <= MOST_CLASSES, "too many classes");
        for (Class<?> part : all) {
            int fields = 0;
            for (Field field : part.getDeclaredFields()) {
                boolean lasting = Modifier.isStatic(field.getModifiers());
                fields += lasting ? 0 : 1;
                check(!lasting || Modifier.isFinal(field.getModifiers()), "static, not final: " + field);
            }
            check(fields <= MOST_FIELDS, "too many fields: " + part);
            check(part == Cranepool.class || Modifier.isStatic(part.getModifiers()), "not static: " + part);
        }
    }

    private static String withoutComments(String text) {
        return text.replaceAll("(?s)/\\*.*?\\*/", "").replaceAll("//[^\n]*", "");
    }

    private static void checkWords(String text) {
        for (String word : UNUSED) {
            String bounded = Character.isLetter(word.charAt(0)) ? "\\b" + word + "\\b" : word;
            check(!Pattern.compile(bounded).matcher(text).find(), "the text has " + word);
        }
        check(text.indexOf('"') < 0, "the text has texts");
        Matcher imported = Pattern.compile("(?m)^import ([\\w.*]+);").matcher(text);
        while (imported.find()) {
            String name = imported.group(1);
            check(name.equals("java.util.Arrays") || name.equals("java.util.NoSuchElementException"), "imports " + name);
        }
        Matcher thrown = Pattern.compile("\\bthrow\\b(?! new (IllegalStateException|IllegalArgumentException"
            + "|ArithmeticException|UnsupportedOperationException|NoSuchElementException)\\(\\);)").matcher(text);
        check(!thrown.find(), "the text throws something else");
        for (char sign : text.toCharArray()) {
            check(sign < 128, "the text has the sign " + (int) sign);
        }
    }

    /** A method begins with a line that ends with a brace, at its class's depth, and ends with a brace alone. */
    private static void checkLengths(String text) {
        int begun = 0;
        int number = 0;
        for (String line : text.split("\n")) {
            number++;
            check(line.length() <= 120, "line " + number + " is too long");
            if (line.matches(" {4}( {4})?(public|private|int|boolean|void|\\w+\\().*")) {
                begun = number;
            }
            if (line.matches(" {4}( {4})?}")) {
                check(number - begun < MOST_LINES || line.equals("    }"), "too long: the method up to line " + number);
            }
        }
    }
}
