import java.io.IOException;
import java.lang.reflect.Constructor;
import java.lang.reflect.Field;
import java.lang.reflect.Method;
import java.lang.reflect.Modifier;
import java.nio.file.Files;
import java.nio.file.Path;
import java.util.Arrays;
import java.util.Set;
import java.util.TreeSet;
import java.util.regex.Pattern;

/** The public face is the document's and no more, and the source keeps to what LANGUAGE.md leaves. */
public final class FaceTest {
    private static final Due DUE = new Due("FaceTest");
    private static final String[] METHODS = {
        "int river(int)", "int bridge(int,int,int,int)", "int rule(int,int,int)", "int month(int)", "int undo()",
        "int say(int,int)", "int hush(int)", "int type(int)", "int clear()", "int read()", "int of(int,int)",
        "int at(int,int)", "int called(int,int,int,int)", "int nothing(int,int)", "int boat(int,int,int,int,int)",
        "int way(int,int,int,int)", "int ways(int,int,int,int)", "int curse(int,int,int)", "int above(int,int,int)",
        "int note(int,int,int)", "int forget()", "int fits(int,int)", "int tries(int)", "int renamed(int,int)",
        "int stammer(int,int,int,int)", "int boats(int,int,int)", "int flood(int,int,int,int,int)", "long part(int)",
        "int image(int)", "int from(int)", "int status(int)", "int count(int)", "long digest()",
    };
    private static final String[] RULED_OUT = {
        "\\bthrow\\b", "\\btry\\b", "\\bcatch\\b", "\\bsynchronized\\b", "\\bassert\\b", "->", "::", "\\bimport\\b",
        "\\w+Exact\\b", "\\bpackage\\b", "\\bprotected\\b", "\\bObject\\b", "@\\w+", "\\bSystem\\.(?!arraycopy)",
    };

    private static String told(Method m) {
        String types = Arrays.stream(m.getParameterTypes()).map(Class::getName).reduce((a, b) -> a + "," + b).orElse("");
        return m.getReturnType().getName() + " " + m.getName() + "(" + types + ")";
    }

    private static void face() {
        Class<?> c = BridgeNames.class;
        DUE.holds("public and final", Modifier.isPublic(c.getModifiers()) && Modifier.isFinal(c.getModifiers()));
        Set<String> open = new TreeSet<>();
        Set<String> names = new TreeSet<>();
        for (Method m : c.getDeclaredMethods()) {
            if (!Modifier.isPrivate(m.getModifiers())) {
                DUE.holds(told(m) + " is public, not static", m.getModifiers() == Modifier.PUBLIC);
                open.add(told(m));
                names.add(m.getName());
            }
        }
        DUE.holds("the methods " + open, open.equals(new TreeSet<>(Arrays.asList(METHODS))));
        for (Method m : c.getDeclaredMethods()) {
            boolean isPrivate = Modifier.isPrivate(m.getModifiers());
            DUE.holds(m.getName() + " is no private one's name", !isPrivate || !names.contains(m.getName()));
        }
        Set<String> constants = new TreeSet<>();
        for (Field f : c.getDeclaredFields()) {
            if (!Modifier.isPrivate(f.getModifiers())) {
                constants.add(f.getName());
                DUE.is(f.getName(), f.getModifiers(), Modifier.PUBLIC | Modifier.STATIC | Modifier.FINAL);
            }
        }
        DUE.holds("the constants " + constants, constants.equals(Set.of("NONE", "BAD", "NO", "FULL")));
        DUE.is("one constructor", c.getDeclaredConstructors().length, 1);
        for (Constructor<?> made : c.getDeclaredConstructors()) {
            DUE.holds("public, of nothing", made.getModifiers() == Modifier.PUBLIC && made.getParameterCount() == 0);
        }
        nested(c, names);
    }

    private static void nested(Class<?> c, Set<String> names) {
        Class<?>[] inside = c.getDeclaredClasses();
        DUE.holds("at most twelve classes", inside.length < 12);
        for (Class<?> k : inside) {
            int m = k.getModifiers();
            DUE.holds(k + " is static and not open", Modifier.isStatic(m) && !Modifier.isPublic(m) && !Modifier.isProtected(m));
            for (Method own : k.getDeclaredMethods()) {
                DUE.holds(k + ": " + own.getName() + " is not of the face", !names.contains(own.getName()));
                DUE.holds(own + " takes at most seven", own.getParameterCount() <= 7);
            }
            int fields = 0;
            for (Field f : k.getDeclaredFields()) {
                boolean isStatic = Modifier.isStatic(f.getModifiers());
                DUE.holds(f + " is final if static", !isStatic || Modifier.isFinal(f.getModifiers()));
                fields += isStatic ? 0 : 1;
            }
            DUE.holds(k + " has at most twenty fields", fields <= 20);
        }
    }

    private static void source() throws IOException {
        String text = Files.readString(Path.of("src/main/java/BridgeNames.java"));
        DUE.holds("signs 1 to 127", text.chars().allMatch(ch -> ch > 0 && ch < 128));
        String code = text.replaceAll("(?s)/\\*.*?\\*/", "").replaceAll("//[^\n]*", "");
        for (String word : RULED_OUT) {
            DUE.holds("no " + word, !Pattern.compile(word).matcher(code).find());
        }
        int start = 0;
        String[] lines = text.split("\n");
        for (int i = 0; i < lines.length; i++) {
            if (lines[i].matches(" {4,8}(?! )[^=;]*\\) \\{")) {
                start = i;
            } else if (lines[i].matches(" {4,8}\\}")) {
                DUE.holds("a method near line " + i + " is short", i - start < 60 || lines[start].contains("class "));
            }
        }
    }

    public static void main(String[] args) throws IOException {
        face();
        source();
        DUE.end();
    }
}
