import java.io.IOException;
import java.lang.reflect.Constructor;
import java.lang.reflect.Field;
import java.lang.reflect.Method;
import java.lang.reflect.Modifier;
import java.nio.charset.StandardCharsets;
import java.nio.file.Files;
import java.nio.file.Path;
import java.util.Set;
import java.util.TreeSet;
import java.util.regex.Matcher;
import java.util.regex.Pattern;

/** The face of the class, and the rules of LANGUAGE.md that its text and its members show. */
public final class FaceTest {
    private static final Due DUE = new Due();
    private static final String FACE = "int row(int,int,int);int set(int,int,int);int copy(int,int,int,int,int);"
            + "int drop(int);int feed(int);int town();int fault();int undo();int days(int);int plane(int,int);"
            + "int reach(int);int way(int,int,int);int gait(int,int,int);int tread(int,int);int walker(int,int);"
            + "int tune(int,int);int where(int,int);int heard(int,int);int ahead(int,int,int);int length(int);"
            + "int meet(int,int);int choir(int);int twins(int);int felt(int,int,int);int doors(int);"
            + "int planed(int);int rise(int,int,int,int);int what(int,int,int,int,int,int,int);"
            + "int who(int,int,int,int,int,int,int);long rots(int,int,int,int);int drawn(int,int,int);"
            + "int image(int);int restore(int);int kind(int);int as(int,int);int ask(int,int);int trace(int);"
            + "int count(int);int status()";

    public static void main(String[] args) throws IOException {
        face();
        members(StairTunes.class);
        for (Class<?> inside : StairTunes.class.getDeclaredClasses()) {
            members(inside);
        }
        text(Files.readString(Path.of("src/main/java/StairTunes.java"), StandardCharsets.US_ASCII));
        DUE.end();
    }

    private static String told(Method m) {
        StringBuilder s = new StringBuilder(m.getReturnType().getName()).append(' ').append(m.getName()).append('(');
        for (Class<?> type : m.getParameterTypes()) {
            s.append(s.charAt(s.length() - 1) == '(' ? "" : ",").append(type.getName());
        }
        return s.append(')').toString();
    }

    private static void face() {
        Set<String> due = new TreeSet<>(Set.of(FACE.split(";")));
        Set<String> seen = new TreeSet<>();
        for (Method m : StairTunes.class.getDeclaredMethods()) {
            if (!Modifier.isPrivate(m.getModifiers())) {
                seen.add(told(m));
                DUE.is("public " + m, Modifier.isPublic(m.getModifiers()) ? 1 : 0, 1);
            }
        }
        DUE.is("methods: " + due + " and " + seen, due.equals(seen) ? 1 : 0, 1);
        DUE.is("final class", Modifier.isFinal(StairTunes.class.getModifiers()) ? 1 : 0, 1);
        Constructor<?>[] all = StairTunes.class.getDeclaredConstructors();
        DUE.is("constructors", all.length, 1);
        DUE.is("its parameters", all[0].getParameterCount(), 0);
        Set<String> fields = new TreeSet<>();
        for (Field f : StairTunes.class.getDeclaredFields()) {
            if (!Modifier.isPrivate(f.getModifiers())) {
                fields.add(f.getName());
            }
        }
        DUE.is("constants " + fields, fields.equals(Set.of("NONE", "BAD", "STATE", "FULL")) ? 1 : 0, 1);
    }

    private static void members(Class<?> one) {
        int fields = 0;
        for (Field f : one.getDeclaredFields()) {
            if (Modifier.isStatic(f.getModifiers())) {
                DUE.is("final " + f, Modifier.isFinal(f.getModifiers()) ? 1 : 0, 1);
            } else {
                fields++;
            }
        }
        DUE.is("fields of " + one + " within 20", fields <= 20 ? 1 : 0, 1);
        for (Method m : one.getDeclaredMethods()) {
            DUE.is("parameters of " + m, m.getParameterCount() <= 7 ? 1 : 0, 1);
            if (Modifier.isPrivate(m.getModifiers())) {
                DUE.is("no public name: " + m, FACE.contains(" " + m.getName() + "(") ? 1 : 0, 0);
            }
        }
        if (one != StairTunes.class) {
            DUE.is("static " + one, Modifier.isStatic(one.getModifiers()) ? 1 : 0, 1);
            DUE.is("not public: " + one, Modifier.isPublic(one.getModifiers()) ? 1 : 0, 0);
        }
    }

    private static void text(String text) {
        String[] banned = {"\\b(throw|throws|try|catch|synchronized|assert|import|package|protected|instanceof)\\b",
            "->", "::", "\"", "\\bStringBuilder\\b", "\\b(hashCode|equals|toString)\\b",
            "\\bSystem\\.(?!arraycopy)", "\\bMath\\.(?!min|max|abs)", "\\w+Exact\\b"};
        for (String pattern : banned) {
            Matcher m = Pattern.compile(pattern).matcher(text);
            boolean there = m.find();
            DUE.is("text has " + (there ? m.group() : pattern), there ? 1 : 0, 0);
        }
        int depth = 0;
        int lines = 0;
        for (String line : text.split("\n")) {
            boolean opens = line.matches(" +[^=;]*\\) \\{") && !line.matches(" +(\\} )?(else |if|for|while|switch).*");
            lines = opens ? 0 : lines + 1;
            depth = Math.max(depth, opens || line.contains("class ") || line.contains("// ") ? 0 : lines);
        }
        DUE.is("lines of the longest method, " + depth + ", within 60", depth <= 60 ? 1 : 0, 1);
    }
}
