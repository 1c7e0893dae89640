import java.io.IOException;
import java.lang.reflect.Constructor;
import java.lang.reflect.Executable;
import java.lang.reflect.Field;
import java.lang.reflect.Method;
import java.lang.reflect.Modifier;
import java.nio.file.Files;
import java.nio.file.Path;
import java.util.ArrayList;
import java.util.HashSet;
import java.util.List;
import java.util.Set;

/** The face of the document, and those rules of LANGUAGE.md that can be seen by a plain look at the program. */
public final class LanguageTest {
    private static final Due DUE = new Due("LanguageTest");
    private static final String[] FACE = {
        "person(int)", "people(int,int,int)", "mend(int,int,int)", "of(int,int)", "feed(int)", "law()",
        "takes(int,int)", "trial(int,int,int)", "tooth(int,int)", "gone(int)", "believed(int,int)", "told(int,int)",
        "have(int,int,int)", "left(int,int)", "enough(int,int)", "jury(int)", "bribe(int,int,int)",
        "liesFor(int,int,int)", "two(int,int,int)", "others(int)", "isSo(int,int,int)", "drawn(int,int,int)",
        "say(int,int)", "lend(int,int)", "cap(int,int)", "year()", "led(int)", "image()", "back()", "undo()",
        "redo()", "body(int)", "act(int,int,int)", "trace(int)", "keep(int,int)", "row(int,int,int)",
        "put(int,int,long)", "element(int,int)", "shift(int,int,int,int,int)", "taken(int,int)", "count(int)"
    };
    private static final String[] FORBIDDEN = {
        "\\b(throw|throws|try|catch|finally|synchronized|assert|package|import|protected|volatile|transient)\\b",
        "->", "::", "\\bvar\\b", "Exact\\(", "\\b(List|Map|Set|Random|Thread|Object|Exception)\\b", "\\bSystem\\.(?!arraycopy)",
        "\\bstatic\\s*\\{", "[^\\x00-\\x7f]", "\\bequals\\(|\\bhashCode\\(|\\btoString\\("
    };

    public static void main(String[] args) throws IOException {
        face();
        Set<String> publicNames = new HashSet<>();
        for (String f : FACE) {
            publicNames.add(f.substring(0, f.indexOf('(')));
        }
        List<Class<?>> classes = new ArrayList<>(List.of(SkinOfTeeth.class));
        classes.addAll(List.of(SkinOfTeeth.class.getDeclaredClasses()));
        DUE.is("at most twelve classes", classes.size() <= 12 ? 1 : 0, 1);
        for (Class<?> c : classes) {
            members(c, publicNames);
        }
        source(Files.readString(Path.of("src/main/java/SkinOfTeeth.java")));
        DUE.end();
    }

    private static String signature(Method m) {
        List<String> types = new ArrayList<>();
        for (Class<?> t : m.getParameterTypes()) {
            types.add(t.getName());
        }
        return m.getName() + "(" + String.join(",", types) + ")";
    }

    private static void face() {
        Class<?> c = SkinOfTeeth.class;
        DUE.is("public final", c.getModifiers() & (Modifier.PUBLIC | Modifier.FINAL), Modifier.PUBLIC | Modifier.FINAL);
        Set<String> face = new HashSet<>(List.of(FACE));
        int seen = 0;
        for (Method m : c.getDeclaredMethods()) {
            if (face.contains(signature(m))) {
                seen++;
                DUE.is("public " + m, m.getModifiers(), Modifier.PUBLIC);
                DUE.is("its answer " + m, m.getReturnType() == (m.getName().equals("element") ? long.class : int.class) ? 1 : 0, 1);
            } else {
                DUE.is("private " + m, m.getModifiers() & Modifier.PRIVATE, Modifier.PRIVATE);
            }
        }
        DUE.is("all of the face", seen, FACE.length);
        for (Constructor<?> k : c.getDeclaredConstructors()) {
            DUE.is("constructor", k.getModifiers() + k.getParameterCount(), Modifier.PUBLIC);
        }
        int constants = 0;
        for (Field f : c.getDeclaredFields()) {
            boolean open = Set.of("BAD", "NOT", "FULL", "STATE", "VOID").contains(f.getName());
            constants += open ? 1 : 0;
            int due = open ? Modifier.PUBLIC | Modifier.STATIC | Modifier.FINAL : Modifier.PRIVATE;
            DUE.is("field " + f, f.getModifiers() & due, due);
        }
        DUE.is("constants", constants, 5);
    }

    private static void members(Class<?> c, Set<String> publicNames) {
        int fields = 0;
        for (Field f : c.getDeclaredFields()) {
            if (Modifier.isStatic(f.getModifiers())) {
                DUE.is("static is final: " + f, f.getModifiers() & Modifier.FINAL, Modifier.FINAL);
            } else {
                fields++;
            }
        }
        DUE.is("some twenty fields: " + c, fields <= 20 ? 1 : 0, 1);
        List<Executable> all = new ArrayList<>(List.of(c.getDeclaredMethods()));
        all.addAll(List.of(c.getDeclaredConstructors()));
        for (Executable e : all) {
            DUE.is("at most seven parameters: " + e, e.getParameterCount() <= 7 ? 1 : 0, 1);
            boolean ownName = Modifier.isPublic(e.getModifiers()) || !publicNames.contains(e.getName());
            DUE.is("bears no public name: " + e, ownName ? 1 : 0, 1);
        }
        if (c != SkinOfTeeth.class) {
            DUE.is("static " + c, c.getModifiers() & Modifier.STATIC, Modifier.STATIC);
            DUE.is("none inside " + c, c.getDeclaredClasses().length, 0);
        }
    }

    private static void source(String text) {
        String code = text.replaceAll("(?s)/\\*.*?\\*/", "").replaceAll("//.*", "").replaceAll("\"[^\"]*\"", "\"\"");
        for (String f : FORBIDDEN) {
            DUE.is("none of " + f, java.util.regex.Pattern.compile(f).matcher(code).find() ? 1 : 0, 0);
        }
        int begun = 0;
        String[] lines = text.split("\n");
        for (int i = 0; i < lines.length; i++) {
            if (lines[i].matches("(    |        )[a-z].*\\) \\{")) {
                begun = i;
            } else if (lines[i].matches("(    |        )\\}")) {
                DUE.is("method at line " + (begun + 1) + " is short", i - begun <= 60 ? 1 : 0, 1);
                begun = i;
            }
        }
    }
}
