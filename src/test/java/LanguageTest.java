import java.io.IOException;
import java.lang.reflect.Constructor;
import java.lang.reflect.Field;
import java.lang.reflect.Method;
import java.lang.reflect.Modifier;
import java.nio.file.Files;
import java.nio.file.Path;
import java.util.Arrays;
import java.util.HashSet;
import java.util.List;
import java.util.Set;
import java.util.TreeSet;
import java.util.regex.Matcher;
import java.util.regex.Pattern;

/** What can be seen from outside of ../shared/LANGUAGE.md: the face, and words that the source must not have. */
public final class LanguageTest {
    private static final Check CHECK = new Check();
    private static final List<String> FACE = List.of("letter/1", "slope/0", "cell/2", "law/1", "set/1", "alone/2",
        "all/0", "signed/0", "holds/0", "by/1", "cheap/0", "used/2", "rank/3", "drawn/3", "most/0", "shuts/0",
        "seen/1", "fits/0", "who/1", "lost/1", "few/0", "boxes/3", "step/2", "judge/0", "clear/0", "image/0",
        "on/0", "count/1");
    private static final List<String> WORDS = List.of("throw", "throws", "try", "catch", "finally", "synchronized",
        "assert", "volatile", "native", "transient", "var", "package", "Exact", "MAX_VALUE", "MIN_VALUE", "Object",
        "System.out", "Random", "Thread", "hashCode", "toString", "protected");

    public static void main(String[] args) throws IOException {
        face();
        classesInside();
        source(Files.readString(Path.of("src/main/java/NeverCross.java")));
        CHECK.end("LanguageTest");
    }

    private static void face() {
        CHECK.yes("public and final", Modifier.isPublic(NeverCross.class.getModifiers())
            && Modifier.isFinal(NeverCross.class.getModifiers()));
        Set<String> found = new TreeSet<>();
        for (Method method : NeverCross.class.getDeclaredMethods()) {
            if (Modifier.isPrivate(method.getModifiers())) {
                for (String open : FACE) {
                    CHECK.yes("private " + method.getName(), !open.startsWith(method.getName() + "/"));
                }
                continue;
            }
            found.add(method.getName() + "/" + method.getParameterCount());
            CHECK.yes("public " + method, Modifier.isPublic(method.getModifiers())
                && !Modifier.isStatic(method.getModifiers()) && method.getReturnType() == int.class);
            for (Class<?> type : method.getParameterTypes()) {
                CHECK.yes("of ints " + method, type == int.class);
            }
        }
        CHECK.yes("the face is " + found, found.equals(new TreeSet<>(FACE)));
        Constructor<?>[] constructors = NeverCross.class.getDeclaredConstructors();
        CHECK.yes("one constructor", constructors.length == 1 && constructors[0].getParameterCount() == 0
            && Modifier.isPublic(constructors[0].getModifiers()));
        for (Field field : NeverCross.class.getDeclaredFields()) {
            CHECK.yes("private " + field, Modifier.isPrivate(field.getModifiers()));
        }
        fields(NeverCross.class);
    }

    private static void fields(Class<?> type) {
        int own = 0;
        for (Field field : type.getDeclaredFields()) {
            boolean isStatic = Modifier.isStatic(field.getModifiers());
            own += isStatic ? 0 : 1;
            CHECK.yes("final " + field, !isStatic || Modifier.isFinal(field.getModifiers()));
        }
        CHECK.yes("some twenty fields of " + type, own <= 20);
    }

    private static void classesInside() {
        Class<?>[] inside = NeverCross.class.getDeclaredClasses();
        CHECK.yes("some twelve classes", inside.length + 1 <= 12);
        Set<String> open = new HashSet<>();
        FACE.forEach(name -> open.add(name.substring(0, name.indexOf('/'))));
        for (Class<?> type : inside) {
            CHECK.yes("static " + type, Modifier.isStatic(type.getModifiers()));
            CHECK.yes("not public " + type, !Modifier.isPublic(type.getModifiers()));
            fields(type);
            for (Method method : type.getDeclaredMethods()) {
                CHECK.yes("no name of the face: " + method, !open.contains(method.getName()));
                CHECK.yes("seven parameters: " + method, method.getParameterCount() <= 7);
            }
        }
    }

    private static void source(String text) {
        String code = text.replaceAll("(?s)/\\*.*?\\*/", "").replaceAll("//[^\n]*", "");
        for (String word : WORDS) {
            boolean there = Pattern.compile("\\b" + Pattern.quote(word) + "\\b|" + word + "\\(").matcher(code).find();
            CHECK.yes("no word " + word, !there);
        }
        for (String sign : List.of("->", "::", "@", "\"", "%n", "while (true)", "for (;;)")) {
            CHECK.yes("no sign " + sign, !code.contains(sign));
        }
        for (String line : code.split("\n")) {
            CHECK.yes("import of " + line, !line.startsWith("import ") || line.equals("import java.util.Arrays;"));
        }
        for (char c : text.toCharArray()) {
            if (c > 126) {
                CHECK.yes("plain signs, not " + c, false);
            }
        }
        CHECK.yes("lines are at most 120 long", Arrays.stream(text.split("\n")).allMatch(line -> line.length() <= 120));
        lengths(code);
    }

    /** Methods begin and end at their own depth of indentation. */
    private static void lengths(String code) {
        Matcher method = Pattern.compile("(?ms)^(    |        )\\w[^\n;=]*\\([^\n]*\\) \\{\n(.*?)^\\1\\}").matcher(code);
        int found = 0;
        while (method.find()) {
            found++;
            CHECK.yes("some sixty lines: " + method.group().split("\n")[0], method.group(2).split("\n").length <= 60);
        }
        CHECK.yes("methods were looked at", found > 40);
    }
}
