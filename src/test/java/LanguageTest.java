import java.io.IOException;
import java.lang.reflect.Constructor;
import java.lang.reflect.Field;
import java.lang.reflect.Method;
import java.lang.reflect.Modifier;
import java.nio.file.Files;
import java.nio.file.Path;
import java.util.ArrayList;
import java.util.Arrays;
import java.util.List;
import java.util.Set;
import java.util.TreeSet;
import java.util.regex.Matcher;
import java.util.regex.Pattern;

/** The document's public face, and those rules of LANGUAGE.md that can be seen in the program's text. */
public final class LanguageTest {
    private static final Due due = new Due("LanguageTest");
    private static final String[] FACE = {"word int", "letter int int int", "line int int", "answer int int int",
        "take int", "put int", "known int", "about int int", "told int int int", "differ int int int int",
        "fit int int", "count int", "origin int int int", "altered int int", "echoes int int", "group int",
        "lost int int", "lostWord int int int", "order int", "quarrel int", "span int int", "sign int", "clear",
        "seek int int int", "still int", "feed int long", "read", "fault", "rule int"};

    public static void main(String[] args) throws IOException {
        face();
        inside(QuotedLetters.class);
        text(Files.readString(Path.of("src/main/java/QuotedLetters.java")));
        due.end();
    }

    private static void face() {
        Set<String> found = new TreeSet<>();
        Set<String> names = new TreeSet<>();
        for (Method method : QuotedLetters.class.getDeclaredMethods()) {
            if (Modifier.isPublic(method.getModifiers())) {
                StringBuilder shape = new StringBuilder(method.getName());
                for (Class<?> type : method.getParameterTypes()) {
                    shape.append(' ').append(type.getName());
                }
                found.add(shape.toString());
                names.add(method.getName());
                due.holds(shape + " answers int", method.getReturnType() == int.class);
            } else {
                due.holds(method + " is private", Modifier.isPrivate(method.getModifiers()));
            }
        }
        due.holds("the public methods are those of the document", found.equals(new TreeSet<>(Arrays.asList(FACE))));
        for (Method method : QuotedLetters.class.getDeclaredMethods()) {
            boolean isPrivate = Modifier.isPrivate(method.getModifiers());
            due.holds(method + " has a name of its own", !isPrivate || !names.contains(method.getName()));
        }
        for (Field field : QuotedLetters.class.getDeclaredFields()) {
            boolean isConstant = field.getName().matches("NONE|UNKNOWN|OUTSIDE|NOT|FULL|LARGE");
            due.holds(field + " is public or private as told",
                isConstant ? Modifier.isPublic(field.getModifiers()) : Modifier.isPrivate(field.getModifiers()));
        }
        Constructor<?>[] constructors = QuotedLetters.class.getDeclaredConstructors();
        due.is("constructors", constructors.length, 1);
        due.is("its parameters", constructors[0].getParameterCount(), 0);
        due.holds("final", Modifier.isFinal(QuotedLetters.class.getModifiers()));
    }

    private static void inside(Class<?> outer) {
        due.holds("at most twelve classes", outer.getDeclaredClasses().length < 12);
        List<Class<?>> all = new ArrayList<>(List.of(outer.getDeclaredClasses()));
        all.add(outer);
        for (Class<?> one : all) {
            due.holds(one + " is static", one == outer || Modifier.isStatic(one.getModifiers()));
            int fields = 0;
            for (Field field : one.getDeclaredFields()) {
                boolean isStatic = Modifier.isStatic(field.getModifiers());
                fields += isStatic ? 0 : 1;
                due.holds(field + " is final", !isStatic || Modifier.isFinal(field.getModifiers()));
            }
            due.holds(one + " has at most twenty fields", fields <= 20);
            for (Method method : one.getDeclaredMethods()) {
                due.holds(method + " has at most seven parameters", method.getParameterCount() <= 7);
            }
        }
    }

    private static void text(String source) {
        String code = source.replaceAll("(?s)/\\*.*?\\*/", "").replaceAll("//[^\n]*", "").replaceAll("\"[^\"]*\"", "S");
        Matcher banned = Pattern.compile("\\b(throw|throws|try|catch|synchronized|assert|package|volatile|native|new \\w+\\(\\) *\\{)\\b|->|::").matcher(code);
        while (banned.find()) {
            due.holds("'" + banned.group() + "' is not used", false);
        }
        Matcher imports = Pattern.compile("import ([^;]*);").matcher(code);
        while (imports.find()) {
            due.holds(imports.group(1) + " may be imported", imports.group(1).matches("java\\.util\\.(Arrays|ArrayList|List)"));
        }
        int start = 0;
        String[] lines = source.split("\n");
        for (int n = 0; n < lines.length; n++) {
            if (lines[n].matches("    (    )?\\w.*\\) \\{")) {
                start = n;
            }
            if (lines[n].matches("    (    )?\\}")) {
                due.holds("the method at line " + (start + 1) + " is short", n - start <= 60);
            }
            due.holds("line " + (n + 1) + " has plain signs", lines[n].matches("[ -~]*"));
        }
    }
}
