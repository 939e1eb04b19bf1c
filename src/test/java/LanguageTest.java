import java.lang.reflect.Constructor;
import java.lang.reflect.Field;
import java.lang.reflect.Method;
import java.lang.reflect.Modifier;
import java.nio.file.Files;
import java.nio.file.Path;
import java.util.ArrayList;
import java.util.List;
import java.util.Set;
import java.util.TreeSet;
import java.util.regex.Matcher;
import java.util.regex.Pattern;

/** The face of the document, and those rules of LANGUAGE.md that can be seen from outside. */
public final class LanguageTest {
    private static final String FACE = "best(int,int):int brothers(int):int chance(int):int child(int,int):int "
        + "cracks(int,int,int):int end(int):boolean fault(int):int feed(int,int,int,int,int):int fired(int):int "
        + "fuel(int):int has(int):int heats(int,int,int,int):int image():int kept(int,int):int kiln(int,int):int "
        + "later(int,int):int letter(int,int,int):int light(int,int):boolean octet(int):int odds(int):int on():boolean "
        + "place(int,int):int rings(int,int,int):int safe(int):int see():int seed(int):boolean seen():int "
        + "set(int,int,int):boolean status(int):int take(int):boolean tells(int):int town():int undo():boolean "
        + "weeks(int):int";

    public static void main(String[] args) throws Exception {
        face();
        nestedClasses();
        source();
        Check.finish("LanguageTest");
    }

    private static void face() {
        Set<String> names = new TreeSet<>();
        Set<String> methods = new TreeSet<>();
        for (Method m : KilnBench.class.getDeclaredMethods()) {
            if (Modifier.isPublic(m.getModifiers())) {
                List<String> types = new ArrayList<>();
                for (Class<?> type : m.getParameterTypes()) {
                    types.add(type.getName());
                }
                methods.add(m.getName() + "(" + String.join(",", types) + "):" + m.getReturnType().getName());
                names.add(m.getName());
            }
        }
        Check.due("the methods of the face: " + methods, true, String.join(" ", methods).equals(FACE));
        for (Class<?> type : allClasses()) {
            for (Method m : type.getDeclaredMethods()) {
                boolean hidden = !Modifier.isPublic(m.getModifiers());
                Check.due(type + " has a method named as one of the face: " + m, false, hidden && names.contains(m.getName()));
                Check.due("parameters of " + m, true, m.getParameterCount() <= 7);
                Check.due("public members inside: " + m, true, hidden || type == KilnBench.class);
            }
        }
        for (Method m : KilnBench.class.getDeclaredMethods()) {
            Check.due("neither public nor private: " + m, true, Modifier.isPublic(m.getModifiers()) || Modifier.isPrivate(m.getModifiers()));
        }
        for (Field f : KilnBench.class.getDeclaredFields()) {
            boolean none = f.getName().equals("NONE");
            Check.due("field " + f, true, none ? Modifier.isPublic(f.getModifiers()) : Modifier.isPrivate(f.getModifiers()));
        }
        Constructor<?>[] made = KilnBench.class.getDeclaredConstructors();
        Check.due("constructors", 1, made.length);
        Check.due("a public one", true, Modifier.isPublic(made[0].getModifiers()));
        int modifiers = KilnBench.class.getModifiers();
        Check.due("public and final", true, Modifier.isPublic(modifiers) && Modifier.isFinal(modifiers));
    }

    private static List<Class<?>> allClasses() {
        List<Class<?>> all = new ArrayList<>(List.of(KilnBench.class.getDeclaredClasses()));
        all.add(KilnBench.class);
        return all;
    }

    private static void nestedClasses() {
        Check.due("classes, twelve at most", true, allClasses().size() <= 12);
        for (Class<?> type : allClasses()) {
            int fields = 0;
            for (Field f : type.getDeclaredFields()) {
                boolean constant = Modifier.isStatic(f.getModifiers());
                Check.due("static but not final: " + f, false, constant && !Modifier.isFinal(f.getModifiers()));
                fields += constant ? 0 : 1;
            }
            Check.due("fields of " + type + ", twenty at most", true, fields <= 20);
            Check.due("static " + type, true, type == KilnBench.class || Modifier.isStatic(type.getModifiers()));
        }
    }

    private static void source() throws Exception {
        String text = Files.readString(Path.of("src/main/java/KilnBench.java"));
        String code = text.replaceAll("(?s)/\\*.*?\\*/", "").replaceAll("//[^\n]*", "").replaceAll("\"[^\"\n]*\"", "\"\"");
        for (String word : List.of("throw", "throws", "try", "catch", "synchronized", "assert", "package", "Exact", "equals", "hashCode", "toString", "protected", "null", "default ->", "var")) {
            Check.due("no " + word, false, Pattern.compile("\\b" + word + "\\b").matcher(code).find());
        }
        for (String sign : List.of("->", "::", "@", "\"\" +", "+ \"\"")) {
            Check.due("no " + sign, false, code.contains(sign));
        }
        Matcher imports = Pattern.compile("import ([^;]*);").matcher(code);
        while (imports.find()) {
            Check.due("import of " + imports.group(1), true, imports.group(1).equals("java.util.Arrays"));
        }
        Matcher system = Pattern.compile("System\\.(\\w+)").matcher(code);
        while (system.find()) {
            Check.due("System." + system.group(1), true, system.group(1).equals("arraycopy"));
        }
        for (char c : text.toCharArray()) {
            Check.due("sign " + (int) c, true, c < 128);
        }
    }
}
