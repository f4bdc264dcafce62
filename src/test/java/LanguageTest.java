import java.io.IOException;
import java.lang.reflect.Constructor;
import java.lang.reflect.Field;
import java.lang.reflect.Method;
import java.lang.reflect.Modifier;
import java.nio.file.Files;
import java.nio.file.Path;
import java.util.List;
import java.util.Set;
import java.util.TreeSet;
import java.util.regex.Matcher;
import java.util.regex.Pattern;

/** What of ../shared/LANGUAGE.md can be seen from the face and the words of the source. */
public final class LanguageTest {
    private static final Due DUE = new Due("LanguageTest");
    private static final Set<String> METHODS = new TreeSet<>(List.of("type(long,int)int",
        "clear()int", "law()int", "day(int)int", "days(int,int,int)int", "step(int,int,int)int",
        "may(int,int,int,int)int", "person(int,int)int", "who(int,int)int", "act(int,int,int)int",
        "now(int)int", "bill(int,int)int", "soon(int,int)int", "against(int)int",
        "sure(int,int,int)int", "delay(int,int)int", "stop(int,int)int", "group()int",
        "wish(int,int,int)int", "passes(int)int", "ride(int,int)int", "tears(int)int",
        "word(int,int,int,int)int", "mended(int)int", "price(int,int)int", "keep(int)int",
        "back(int)int", "count(int)int", "trace()long"));

    public static void main(String[] args) throws IOException {
        face();
        words(Files.readString(Path.of("src/main/java/NoDayForIt.java")));
        DUE.end();
    }

    private static void face() {
        Set<String> shown = new TreeSet<>();
        Set<String> publicNames = new TreeSet<>();
        for (Method m : NoDayForIt.class.getDeclaredMethods()) {
            if (!Modifier.isPrivate(m.getModifiers()) && !m.isSynthetic()) {
                StringBuilder sb = new StringBuilder(m.getName()).append("(");
                for (Class<?> c : m.getParameterTypes()) {
                    sb.append(sb.charAt(sb.length() - 1) == '(' ? "" : ",").append(c.getName());
                }
                shown.add(sb.append(")").append(m.getReturnType().getName()).toString());
                publicNames.add(m.getName());
                is("public: " + m, Modifier.isPublic(m.getModifiers()));
            }
        }
        is("the methods are those of the face: " + shown, shown.equals(METHODS));
        privateNames(NoDayForIt.class, publicNames);
        for (Field f : NoDayForIt.class.getDeclaredFields()) {
            boolean isConstant = List.of("BAD", "STATE", "FULL", "NONE").contains(f.getName());
            is("private: " + f, isConstant || Modifier.isPrivate(f.getModifiers()));
        }
        Constructor<?>[] made = NoDayForIt.class.getDeclaredConstructors();
        is("one constructor", made.length == 1 && Modifier.isPublic(made[0].getModifiers()));
        DUE.is("classes", NoDayForIt.class.getDeclaredClasses().length > 12 ? 1 : 0, 0);
    }

    private static void privateNames(Class<?> c, Set<String> taken) {
        for (Method m : c.getDeclaredMethods()) {
            is("its own name: " + m, Modifier.isPublic(m.getModifiers())
                || !taken.contains(m.getName()));
        }
        int fields = 0;
        for (Field f : c.getDeclaredFields()) {
            boolean isStatic = Modifier.isStatic(f.getModifiers());
            fields += isStatic ? 0 : 1;
            is("static is final: " + f, !isStatic || Modifier.isFinal(f.getModifiers()));
        }
        is("fields of " + c, fields <= 20);
        for (Class<?> inner : c.getDeclaredClasses()) {
            is("static: " + inner, Modifier.isStatic(inner.getModifiers()));
            privateNames(inner, taken);
        }
    }

    private static void words(String source) {
        String bare = source.replaceAll("(?s)/\\*.*?\\*/", " ").replaceAll("//[^\n]*", " ")
            .replaceAll("\"[^\"]*\"", "\"\"").replaceAll("'[^']*'", "' '");
        Matcher m = Pattern.compile("\\b(throw|throws|try|catch|finally|synchronized|assert|yield"
            + "|package|var|record|protected|float|double|Object|System\\.(?!arraycopy)\\w+"
            + "|Math\\.\\w+Exact|hashCode|equals|toString)\\b|->|::").matcher(bare);
        while (m.find()) {
            is("no " + m.group(), false);
        }
        Matcher imports = Pattern.compile("import ([^;]*);").matcher(bare);
        while (imports.find()) {
            is("import " + imports.group(1), imports.group(1).equals("java.util.Arrays"));
        }
        int since = 0;
        for (String line : bare.split("\n")) {
            since = line.matches(" {4,8}[a-zA-Z].*\\) \\{") ? 0 : since + 1;
            is("short methods: " + line, since < 60 || line.isBlank());
        }
    }

    private static void is(String what, boolean holds) {
        DUE.is(what, holds ? 1 : 0, 1);
    }
}
