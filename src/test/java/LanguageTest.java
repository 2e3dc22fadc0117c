import java.io.IOException;
import java.lang.reflect.Constructor;
import java.lang.reflect.Field;
import java.lang.reflect.Method;
import java.lang.reflect.Modifier;
import java.nio.file.Files;
import java.nio.file.Path;
import java.util.ArrayList;
import java.util.List;
import java.util.Set;
import java.util.TreeSet;
import java.util.regex.Matcher;
import java.util.regex.Pattern;

/** The face, and those rules of LANGUAGE.md that can be looked at from outside. */
public final class LanguageTest {
    private static final Check CHECK = new Check("LanguageTest");
    private static final Path SOURCE = Path.of("src/main/java/FurnitureCure.java");
    private static final String[] FACE = {
        "int piece(int,int,int,int)", "int leave(int)", "int room(int,int,int)", "int bad(int,int,int)",
        "int guest(int,int)", "int say(int)", "int wipe()", "int fault()", "int judge(int)", "int done()",
        "int behind(int,int)", "int worse(int)", "int well()", "int stays(int)", "int alone(int,int)", "int all(int)",
        "int ways(int,int,int)", "int rooms(int,int)", "int seats(int)", "int seen(int,int,int)", "int forget()",
        "int does(int)", "int tries(int)", "long home(int,int,int,int,int,int)", "int bill(int,int)",
        "long draughts(int,int,int,int,int)", "int week(int,int,int)", "int image(int)", "int restore(int)",
        "int told(int)"};
    private static final String[] CONSTANTS = {"NONE", "UNKNOWN", "OUTSIDE", "STATE", "FULL", "NO", "LOST"};
    private static final int CONSTANT = Modifier.PUBLIC | Modifier.STATIC | Modifier.FINAL;
    private static final int LONGEST_METHOD = 60;
    private static final String[] FORBIDDEN = {"\\bimport\\b", "\\bpackage\\b", "->", "::", "\\bsynchronized\\b",
        "\\bassert\\b", "\\bfinally\\b", "\\bcatch\\b", "\\btry\\b", "\\bthrows?\\b", "Exact\\b", "\\bdouble\\b",
        "\\bfloat\\b", "\\bSystem\\.(?!arraycopy)", "\\bThread\\b", "\\bObject\\b", "\\bequals\\b", "\\bhashCode\\b",
        "\\bwhile *\\(true\\)", "for *\\(;;\\)", "\\bstatic *\\{", "\\bjava\\.", "\"", "\\[\\] *\\[\\] *\\["};

    public static void main(String[] args) throws IOException {
        constants();
        face();
        insides();
        source();
        CHECK.end();
    }

    private static void constants() {
        CHECK.due("NONE", -6, FurnitureCure.NONE);
        CHECK.due("UNKNOWN", -1, FurnitureCure.UNKNOWN);
        CHECK.due("OUTSIDE", -2, FurnitureCure.OUTSIDE);
        CHECK.due("STATE", -3, FurnitureCure.STATE);
        CHECK.due("FULL", -4, FurnitureCure.FULL);
        CHECK.due("NO", -5, FurnitureCure.NO);
        CHECK.due("LOST", -1000000000000000000L, FurnitureCure.LOST);
    }

    private static void face() {
        Class<?> c = FurnitureCure.class;
        CHECK.holds("public and final", Modifier.isPublic(c.getModifiers()) && Modifier.isFinal(c.getModifiers()));
        Constructor<?>[] made = c.getDeclaredConstructors();
        CHECK.holds("one public constructor",
                made.length == 1 && Modifier.isPublic(made[0].getModifiers()) && made[0].getParameterCount() == 0);
        Set<String> open = new TreeSet<>();
        for (Method m : c.getDeclaredMethods()) {
            if (!Modifier.isPrivate(m.getModifiers())) {
                CHECK.holds("public " + m, Modifier.isPublic(m.getModifiers()) && !Modifier.isStatic(m.getModifiers()));
                open.add(told(m));
            }
        }
        CHECK.holds("the document's methods and no other: " + open, open.equals(new TreeSet<>(List.of(FACE))));
        Set<String> fields = new TreeSet<>();
        for (Field f : c.getDeclaredFields()) {
            if (!Modifier.isPrivate(f.getModifiers())) {
                fields.add(f.getName());
                CHECK.holds(f + " is public, static and final", f.getModifiers() == CONSTANT);
                Class<?> kind = f.getName().equals("LOST") ? long.class : int.class;
                CHECK.holds(f + " is of its kind", f.getType() == kind);
            }
        }
        CHECK.holds("the document's constants and no other", fields.equals(new TreeSet<>(List.of(CONSTANTS))));
    }

    private static String told(Method m) {
        List<String> types = new ArrayList<>();
        for (Class<?> type : m.getParameterTypes()) {
            types.add(type.getName());
        }
        return m.getReturnType().getName() + " " + m.getName() + "(" + String.join(",", types) + ")";
    }

    private static void insides() {
        Set<String> names = new TreeSet<>();
        for (String method : FACE) {
            names.add(method.substring(method.indexOf(' ') + 1, method.indexOf('(')));
        }
        Class<?>[] inside = FurnitureCure.class.getDeclaredClasses();
        CHECK.holds("at most twelve classes", inside.length <= 12);
        insidesOf(FurnitureCure.class, names, true);
        for (Class<?> c : inside) {
            CHECK.holds(c + " is static", Modifier.isStatic(c.getModifiers()) && !Modifier.isPublic(c.getModifiers()));
            insidesOf(c, names, false);
        }
    }

    private static void insidesOf(Class<?> c, Set<String> names, boolean hasFace) {
        for (Method m : c.getDeclaredMethods()) {
            boolean ofFace = hasFace && Modifier.isPublic(m.getModifiers());
            CHECK.holds(m + " has a name of its own", ofFace || !names.contains(m.getName()));
            CHECK.holds(m + " has seven parameters at most", m.getParameterCount() <= 7);
        }
        int fields = 0;
        for (Field f : c.getDeclaredFields()) {
            boolean isStatic = Modifier.isStatic(f.getModifiers());
            CHECK.holds(f + " is final if static", !isStatic || Modifier.isFinal(f.getModifiers()));
            fields += isStatic ? 0 : 1;
        }
        CHECK.holds(c + " has twenty fields at most", fields <= 20);
    }

    private static void source() throws IOException {
        String text = Files.readString(SOURCE);
        for (int i = 0; i < text.length(); i++) {
            if (text.charAt(i) > 127) {
                CHECK.due("a sign beyond 127 at " + i, 0, text.charAt(i));
            }
        }
        String code = text.replaceAll("(?s)/\\*.*?\\*/", " ").replaceAll("//[^\n]*", " ");
        for (String forbidden : FORBIDDEN) {
            Matcher found = Pattern.compile(forbidden).matcher(code);
            CHECK.holds("no " + forbidden, !found.find());
        }
        methodsAreShort(text);
    }

    /** By the indent: a method's first line ends with a brace, and its last one is a brace as deep as the first. */
    private static void methodsAreShort(String text) {
        String[] lines = text.split("\n");
        int found = 0;
        for (int i = 0; i < lines.length; i++) {
            Matcher first = Pattern.compile("^( {4}| {8})(\\w+ )*[\\w\\[\\]]+ \\w+\\(.*").matcher(lines[i]);
            if (!first.matches() || lines[i].contains("return") || lines[i].endsWith(";")) {
                continue;
            }
            int last = i;
            while (last < lines.length - 1 && !lines[last].equals(first.group(1) + "}")) {
                last++;
            }
            found++;
            CHECK.holds("short: " + lines[i].trim(), last - i < LONGEST_METHOD);
        }
        CHECK.holds("all methods were found: " + found, found > FACE.length + 40);
    }
}
