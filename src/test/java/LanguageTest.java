import java.io.IOException;
import java.lang.reflect.Constructor;
import java.lang.reflect.Field;
import java.lang.reflect.Method;
import java.lang.reflect.Modifier;
import java.nio.file.Files;
import java.nio.file.Path;
import java.util.Arrays;
import java.util.Set;
import java.util.TreeSet;
import java.util.regex.Matcher;
import java.util.regex.Pattern;

/** The face of the class, and the rules of LANGUAGE.md that can be seen without reading the code's meaning. */
public final class LanguageTest {
    private static final String[] FACE = {
        "int ride(int, int, int, int, int)", "int group(int)", "int walk(int, int, int)", "int part(int, int, int)",
        "int take(int, int)", "int give(int, int)", "int come(int, int)", "int stand(int, int)", "int leave(int)",
        "int go(int)", "boolean stop(int, boolean)", "boolean rain(boolean)", "int ticks(int)", "int wait(int)",
        "int free(int, int)", "int groupOf(int, int)", "int time(int, int, int)", "int rideOf(int, int)",
        "int window(int, int, int)", "int row(int, boolean, int)", "int count(int)"};
    private static final String[] FORBIDDEN = {
        "throw", "throws", "try", "catch", "finally", "synchronized", "assert", "import", "package", "->", "::", "native",
        "System", "Thread", "Object", "Exception", "protected"};
    private static final int MOST_LINES = 60;
    private static int wrong = 0;

    public static void main(String[] args) throws IOException {
        face();
        members(ParkRows.class);
        for (Class<?> inside : ParkRows.class.getDeclaredClasses()) {
            expect(Modifier.isStatic(inside.getModifiers()), inside + " is not static");
            members(inside);
        }
        text(Files.readString(Path.of("src/main/java/ParkRows.java")));
        System.out.println(wrong + " rules that are not kept");
        if (wrong != 0) {
            System.exit(1);
        }
    }

    private static void expect(boolean holds, String otherwise) {
        if (!holds) {
            wrong++;
            System.out.println(otherwise);
        }
    }

    private static String typesOf(Class<?>[] types) {
        return Arrays.toString(Arrays.stream(types).map(Class::getName).toArray()).replace('[', '(').replace(']', ')');
    }

    private static void face() {
        Set<String> found = new TreeSet<>();
        Set<String> names = new TreeSet<>();
        for (Method method : ParkRows.class.getDeclaredMethods()) {
            if (!Modifier.isPrivate(method.getModifiers())) {
                found.add(method.getReturnType() + " " + method.getName() + typesOf(method.getParameterTypes()));
                names.add(method.getName());
            }
        }
        expect(found.equals(new TreeSet<>(Arrays.asList(FACE))), "the face is " + found);
        Constructor<?>[] constructors = ParkRows.class.getDeclaredConstructors();
        expect(constructors.length == 1 && constructors[0].getParameterCount() == 0
            && Modifier.isPublic(constructors[0].getModifiers()), "the constructor is not the document's");
        expect(Modifier.isFinal(ParkRows.class.getModifiers()), "the class is not final");
        privateNames(ParkRows.class, names);
        for (Class<?> inside : ParkRows.class.getDeclaredClasses()) {
            privateNames(inside, names);
        }
    }

    private static void privateNames(Class<?> owner, Set<String> names) {
        for (Method method : owner.getDeclaredMethods()) {
            boolean inFace = owner == ParkRows.class && !Modifier.isPrivate(method.getModifiers());
            expect(inFace || !names.contains(method.getName()), method + " bears the name of a public one");
            expect(method.getParameterCount() <= 7, method + " takes more than seven parameters");
        }
    }

    private static void members(Class<?> owner) {
        int own = 0;
        for (Field field : owner.getDeclaredFields()) {
            int how = field.getModifiers();
            expect(Modifier.isPrivate(how), field + " is not private");
            expect(!Modifier.isStatic(how) || Modifier.isFinal(how), field + " is static and not final");
            own += Modifier.isStatic(how) ? 0 : 1;
        }
        expect(own <= 20, owner + " has " + own + " fields");
    }

    private static void text(String text) {
        String code = text.replaceAll("(?s)/\\*.*?\\*/", "").replaceAll("//[^\n]*", "");
        for (String word : FORBIDDEN) {
            boolean isWord = Character.isLetter(word.charAt(0));
            Matcher seen = Pattern.compile(isWord ? "\\b" + word + "\\b" : Pattern.quote(word)).matcher(code);
            expect(!seen.find(), "the text holds " + word);
        }
        expect(code.chars().allMatch(sign -> sign < 128), "the text holds a sign above 127");
        Matcher methods = Pattern.compile("(?m)^( {4}| {8})(?:public|private) (?!static final class)[^=;\n]*\\{\n(?s:(.*?))\n\\1\\}\n").matcher(code);
        while (methods.find()) {
            if (!methods.group().contains(" class ")) {
                int lines = methods.group().split("\n").length;
                expect(lines <= MOST_LINES, "a method has " + lines + " lines: " + methods.group().split("\n")[0]);
            }
        }
    }
}
