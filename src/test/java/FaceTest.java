import java.io.IOException;
import java.lang.reflect.Constructor;
import java.lang.reflect.Field;
import java.lang.reflect.Method;
import java.lang.reflect.Modifier;
import java.nio.file.Files;
import java.nio.file.Path;
import java.util.Arrays;
import java.util.Set;
import java.util.TreeSet;
import java.util.regex.Matcher;
import java.util.regex.Pattern;

/** The public face, and what can be read of LANGUAGE.md's rules from the source and the class. */
public final class FaceTest {
    private static final String[] METHODS = {
        "int many(int)", "int share(int,int,int)", "int rank(int,int,int)", "int fewest(int,int)",
        "int made(int,int,int)", "int turned(int,int)", "int wire(int,int,int,int,int)", "int cut()",
        "int ohms(int,int)", "int about(int,int)", "long between(int,int,int)",
        "long through(int,int,int,int)", "int trees()", "int falls(int,int)", "int sort(int,int)",
        "int nearest(int,int)", "int choice(int,int)", "int count(int)", "long trace()"};

    private static final String[] CONSTANTS = {"BAD", "STATE", "FULL", "NONE"};

    private static final String[] FORBIDDEN_WORDS = {
        "throw", "throws", "try", "catch", "finally", "synchronized", "assert", "package", "volatile",
        "toString", "hashCode", "Object", "System.out", "Exact"};

    public static void main(String[] args) throws IOException {
        constants();
        face();
        insides();
        source();
        Due.end();
    }

    private static void constants() {
        Due.due("BAD", OhmNets.BAD, -1);
        Due.due("STATE", OhmNets.STATE, -2);
        Due.due("FULL", OhmNets.FULL, -3);
        Due.due("NONE", OhmNets.NONE, -9);
    }

    private static void face() {
        Class<OhmNets> face = OhmNets.class;
        Due.holds("OhmNets is public and final",
            Modifier.isPublic(face.getModifiers()) && Modifier.isFinal(face.getModifiers()));

        Set<String> methods = new TreeSet<>();
        Set<String> privateNames = new TreeSet<>();
        for (Method method : face.getDeclaredMethods()) {
            if (Modifier.isPrivate(method.getModifiers())) {
                privateNames.add(method.getName());
                continue;
            }
            Due.holds(method + " is public and no static one",
                Modifier.isPublic(method.getModifiers()) && !Modifier.isStatic(method.getModifiers()));
            methods.add(signature(method));
        }
        Due.holds("methods are " + methods, methods.equals(new TreeSet<>(Arrays.asList(METHODS))));
        for (String method : methods) {
            String name = method.substring(method.indexOf(' ') + 1, method.indexOf('('));
            Due.holds("no private method is called " + name, !privateNames.contains(name));
        }

        Constructor<?>[] constructors = face.getDeclaredConstructors();
        Due.holds("one public constructor without parameters", constructors.length == 1
            && constructors[0].getParameterCount() == 0 && Modifier.isPublic(constructors[0].getModifiers()));

        Set<String> fields = new TreeSet<>();
        for (Field field : face.getDeclaredFields()) {
            if (!Modifier.isPrivate(field.getModifiers())) {
                fields.add(field.getName());
            }
        }
        Due.holds("constants are " + fields, fields.equals(new TreeSet<>(Arrays.asList(CONSTANTS))));
    }

    private static String signature(Method method) {
        StringBuilder text = new StringBuilder();
        text.append(method.getReturnType()).append(' ').append(method.getName()).append('(');
        for (int i = 0; i < method.getParameterCount(); i++) {
            text.append(i == 0 ? "" : ",").append(method.getParameterTypes()[i]);
        }
        return text.append(')').toString();
    }

    private static void insides() {
        Class<?>[] insides = OhmNets.class.getDeclaredClasses();
        Due.holds("at most twelve classes", insides.length + 1 <= 12);
        for (Class<?> inside : insides) {
            Due.holds(inside + " is static", Modifier.isStatic(inside.getModifiers()));
            Due.holds(inside + " is not public or protected",
                (inside.getModifiers() & (Modifier.PUBLIC | Modifier.PROTECTED)) == 0);
            int ofObject = 0;
            for (Field field : inside.getDeclaredFields()) {
                if (Modifier.isStatic(field.getModifiers())) {
                    Due.holds(field + " is final", Modifier.isFinal(field.getModifiers()));
                } else {
                    ofObject++;
                }
            }
            Due.holds(inside + " has at most twenty fields", ofObject <= 20);
            for (Method method : inside.getDeclaredMethods()) {
                Due.holds(method + " takes at most seven parameters", method.getParameterCount() <= 7);
            }
        }
    }

    private static void source() throws IOException {
        String text = Files.readString(Path.of("src/main/java/OhmNets.java"));
        String code = text.replaceAll("(?s)/\\*.*?\\*/", " ").replaceAll("//[^\n]*", " ");
        for (String word : FORBIDDEN_WORDS) {
            Due.holds("no " + word, !Pattern.compile("\\b" + Pattern.quote(word) + "\\b").matcher(code).find());
        }
        Due.holds("no lambda, no method reference", !code.contains("->") && !code.contains("::"));
        Matcher imports = Pattern.compile("import ([^;]*);").matcher(code);
        while (imports.find()) {
            Due.holds("import " + imports.group(1), Set.of("java.util.ArrayList", "java.util.List",
                "java.util.Arrays", "java.util.Iterator").contains(imports.group(1)));
        }
        Due.holds("no character above 255", text.chars().allMatch(c -> c <= 255));
        Due.holds("no annotation", !code.contains("@"));
    }
}
