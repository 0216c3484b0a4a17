import java.lang.reflect.Constructor;
import java.lang.reflect.Field;
import java.lang.reflect.Method;
import java.lang.reflect.Modifier;
import java.nio.file.Files;
import java.nio.file.Path;
import java.util.ArrayList;
import java.util.List;
import java.util.TreeSet;
import java.util.regex.Matcher;
import java.util.regex.Pattern;

/** The public face, and those rules of LANGUAGE.md that can be seen without reading. */
public final class LanguageTest {
    private static final String FACE =
        "back(int):int begin():boolean check():int count(int):int fault(int):int feed(int,int,int,int,int):int "
        + "holds(int,int):boolean literal(int,int):int load():int origin(int):int piece(int,int,int):int "
        + "proof(int):int run(int):int trail(int,int):int value(int):int";

    public static void main(String[] args) throws Exception {
        face();
        nestedClasses();
        source(Files.readString(Path.of(System.getProperty("project", "."), "src/main/java/PlaneBench.java")));
        Due.end("LanguageTest");
    }

    private static void face() {
        TreeSet<String> open = new TreeSet<>();
        List<String> hidden = new ArrayList<>();
        for (Method m : PlaneBench.class.getDeclaredMethods()) {
            StringBuilder text = new StringBuilder(m.getName()).append('(');
            for (Class<?> type : m.getParameterTypes()) {
                text.append(text.charAt(text.length() - 1) == '(' ? "" : ",").append(type.getName());
            }
            text.append("):").append(m.getReturnType().getName());
            if (Modifier.isPrivate(m.getModifiers())) {
                hidden.add(m.getName());
            } else {
                open.add((m.getModifiers() == Modifier.PUBLIC ? "" : "odd ") + text);
            }
        }
        Due.due("the face", String.join(" ", open), FACE);
        for (String name : hidden) {
            Due.due("a private method " + name, FACE.contains(name + "("), false);
        }
        Constructor<?>[] made = PlaneBench.class.getDeclaredConstructors();
        Due.due("constructors", made.length, 1);
        Due.due("it is public", made[0].getModifiers(), Modifier.PUBLIC);
        Due.due("it takes", made[0].getParameterTypes()[0].getName(), "int");
        Due.due("the class", PlaneBench.class.getModifiers(), Modifier.PUBLIC | Modifier.FINAL);
        for (Field f : PlaneBench.class.getDeclaredFields()) {
            boolean constant = f.getName().equals("NONE");
            Due.due(f.getName() + " is private", Modifier.isPrivate(f.getModifiers()), !constant);
            Due.due(f.getName() + " is static and not final",
                Modifier.isStatic(f.getModifiers()) && !Modifier.isFinal(f.getModifiers()), false);
        }
    }

    private static void nestedClasses() {
        Class<?>[] nested = PlaneBench.class.getDeclaredClasses();
        Due.due("at most twelve classes", nested.length <= 11, true);
        for (Class<?> c : nested) {
            Due.due(c + " is static", Modifier.isStatic(c.getModifiers()), true);
            Due.due(c + " is not public", Modifier.isPublic(c.getModifiers()), false);
            int fields = 0;
            for (Field f : c.getDeclaredFields()) {
                if (Modifier.isStatic(f.getModifiers())) {
                    Due.due(c + "." + f.getName() + " is final", Modifier.isFinal(f.getModifiers()), true);
                } else {
                    fields++;
                }
            }
            Due.due(c + " has at most twenty fields", fields <= 20, true);
            for (Method m : c.getDeclaredMethods()) {
                Due.due(c + "." + m.getName() + " takes at most seven", m.getParameterCount() <= 7, true);
            }
        }
    }

    private static void source(String text) {
        for (int i = 0; i < text.length(); i++) {
            if (text.charAt(i) > 126) {
                Due.due("a character at " + i, text.charAt(i), ' ');
            }
        }
        Matcher imports = Pattern.compile("(?m)^import (.*);").matcher(text);
        while (imports.find()) {
            Due.due("an import", imports.group(1), "java.util.Arrays");
        }
        String code = text.replaceAll("(?s)/\\*.*?\\*/", "").replaceAll("//[^\n]*", "");
        for (String word : new String[] {"throw", "throws", "try", "catch", "finally", "synchronized", "assert", "package",
            "String", "Object", "equals", "hashCode", "toString", "System\\.(?!arraycopy)\\w+", "Arrays\\.(?!fill|copyOf)\\w+",
            "Math\\.(?!max|min|abs)\\w+", "\\w+Exact"}) {
            Matcher m = Pattern.compile("\\b" + word + "\\b").matcher(code);
            Due.due("the word " + word, m.find(), false);
        }
        Due.due("a lambda", code.contains("->"), false);
        Due.due("a method reference", code.contains("::"), false);
        Due.due("a loop without an end", Pattern.compile("while \\(true\\)|for \\(;").matcher(code).find(), false);
        methodsAreShort(text);
    }

    private static void methodsAreShort(String text) {
        String[] lines = text.split("\n");
        int start = -1;
        for (int i = 0; i < lines.length; i++) {
            if (lines[i].matches(" {4}( {4})?[^ /*].*\\) \\{") ) {
                start = i;
            } else if (start >= 0 && lines[i].matches(" {4}( {4})?\\}")) {
                Due.due("at most sixty lines from " + (start + 1) + " on", i - start < 60, true);
                start = -1;
            }
        }
    }
}
