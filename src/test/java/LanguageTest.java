import java.io.IOException;
import java.lang.reflect.Field;
import java.lang.reflect.Method;
import java.lang.reflect.Modifier;
import java.nio.file.Files;
import java.nio.file.Path;
import java.util.Arrays;
import java.util.Set;
import java.util.TreeSet;
import java.util.regex.Matcher;
import java.util.regex.Pattern;

/** The face of the document, and those rules of LANGUAGE.md that can be seen from the class and its text. */
public final class LanguageTest {
    private static final String FACE = "back() best(int) bestSum() catchUp(int) chance(int,int,int) choice(int) count(int) "
            + "crowd(int,int) days(int) empties(int) fault(int) feed(int,int,int,int,int) give(int,int) hands() keep() "
            + "known(int) late(int) later(int) law(int,int,int,int) level(int) likes(int,int) lingered() misses(int,int) "
            + "mostCross(int) named(int) note(int,int,boolean) out(int) party(int,int) price(int,int) rest(int,int,int) "
            + "rests(int,int) sign(int,int) sitting(int,int) stays(int,int) swap(int) text(int) tried(int,int,int) undo() "
            + "wish(int,int) without()";

    public static void main(String[] args) throws IOException {
        face();
        classes();
        for (Class<?> c : ThreeSittings.class.getDeclaredClasses()) {
            members(c);
        }
        members(ThreeSittings.class);
        source(Files.readString(Path.of("src/main/java/ThreeSittings.java")));
        Kit.end("LanguageTest");
    }

    private static void face() {
        Set<String> names = new TreeSet<>();
        Set<String> face = new TreeSet<>();
        for (Method m : ThreeSittings.class.getDeclaredMethods()) {
            if (Modifier.isPublic(m.getModifiers())) {
                names.add(m.getName());
                String types = Arrays.toString(m.getParameterTypes());
                face.add(m.getName() + "(" + types.substring(1, types.length() - 1).replace(" ", "") + ")");
                Class<?> due = Set.of("law", "crowd").contains(m.getName()) ? long.class
                        : Set.of("give", "sign", "price", "known").contains(m.getName()) ? boolean.class : int.class;
                Kit.due("what " + m.getName() + " answers", m.getReturnType() == due, true);
                Kit.due("static " + m.getName(), Modifier.isStatic(m.getModifiers()), false);
            }
        }
        Kit.due("the face " + face, String.join(" ", face).equals(FACE), true);
        for (Method m : ThreeSittings.class.getDeclaredMethods()) {
            if (!Modifier.isPublic(m.getModifiers())) {
                Kit.due("private " + m.getName(), Modifier.isPrivate(m.getModifiers()), true);
                Kit.due("a public name " + m.getName(), names.contains(m.getName()), false);
            }
        }
        for (Field f : ThreeSittings.class.getDeclaredFields()) {
            Kit.due("private " + f.getName(), Modifier.isPrivate(f.getModifiers()), !f.getName().equals("NONE"));
        }
        Kit.due("final", Modifier.isFinal(ThreeSittings.class.getModifiers()), true);
        Kit.due("constructors", ThreeSittings.class.getDeclaredConstructors().length, 1);
    }

    private static void classes() {
        Class<?>[] inside = ThreeSittings.class.getDeclaredClasses();
        Kit.due("classes", inside.length + 1 <= 12, true);
        for (Class<?> c : inside) {
            Kit.due("private " + c, Modifier.isPrivate(c.getModifiers()), true);
            Kit.due("static " + c, Modifier.isStatic(c.getModifiers()), true);
        }
    }

    private static void members(Class<?> c) {
        int own = 0;
        for (Field f : c.getDeclaredFields()) {
            if (Modifier.isStatic(f.getModifiers())) {
                Kit.due("final " + f, Modifier.isFinal(f.getModifiers()), true);
            } else {
                own++;
            }
        }
        Kit.due("fields of " + c, own <= 20, true);
        for (Method m : c.getDeclaredMethods()) {
            Kit.due("parameters of " + m, m.getParameterCount() <= 7, true);
        }
    }

    private static void source(String source) {
        String[] never = {"->", "::", "finally", "synchronized", "assert", "static {", "lambda", "float", "double",
            "getMessage", "catch (", "hashCode", ".equals(", "package "};
        for (String word : never) {
            Kit.due("the text has " + word, source.contains(word), false);
        }
        Matcher library = Pattern.compile("\\b(Math|System|Arrays|Integer|Long|Character|String|List)\\.(\\w+)").matcher(source);
        Set<String> allowed = Set.of("Math.max", "Math.min", "System.arraycopy", "Long.MIN_VALUE");
        while (library.find()) {
            Kit.due("library " + library.group(), allowed.contains(library.group()), true);
        }
        Matcher imports = Pattern.compile("(?m)^import (.*);").matcher(source);
        while (imports.find()) {
            Kit.due("import " + imports.group(1), imports.group(1).equals("java.util.NoSuchElementException"), true);
        }
        // Rows are made in constructors: no call makes an object but an exception.
        Matcher made = Pattern.compile("(?m)^.*\\bnew .*$").matcher(source);
        while (made.find()) {
            boolean field = made.group().matches("    (    )?private .*(= new .*)");
            Kit.due("made: " + made.group(), field || made.group().contains("throw new"), true);
        }
        int length = 0;
        for (String line : source.split("\n")) {
            boolean opens = line.matches(" {4,8}[a-zA-Z].*\\) (throws .*)?\\{");
            length = opens ? 1 : length + 1;
            if (line.matches(" {4,8}\\}")) {
                Kit.due("lines of a method", length <= 60 || line.matches(" {4}\\}"), true);
            }
        }
    }
}
