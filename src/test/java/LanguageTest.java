import java.lang.reflect.Constructor;
import java.lang.reflect.Field;
import java.lang.reflect.Method;
import java.lang.reflect.Modifier;
import java.nio.file.Files;
import java.nio.file.Path;
import java.util.ArrayList;
import java.util.List;
import java.util.TreeSet;
import java.util.regex.Matcher;
import java.util.regex.Pattern;

/** The public face, the characters and the imports; RulesTest has the other rules of LANGUAGE.md. */
public final class LanguageTest {
    private static final String FACE =
        "back(int):int begin():boolean check():int count(int):int fault(int):int feed(int,int,int,int,int):int "
        + "holds(int,int):boolean literal(int,int):int load():int origin(int):int piece(int,int,int):int "
        + "proof(int):int run(int):int trail(int,int):int value(int):int";

    public static void main(String[] args) throws Exception {
        face();
        source(Files.readString(Path.of(System.getProperty("project", "."), "src/main/java/PlaneBench.java")));
        Due.end("LanguageTest");
    }

    private static void face() {
        TreeSet<String> open = new TreeSet<>();
        List<String> hidden = new ArrayList<>();
        for (Method m : PlaneBench.class.getDeclaredMethods()) {
            StringBuilder text = new StringBuilder(m.getName()).append('(');
            for (Class<?> type : m.getParameterTypes()) {
                text.append(text.charAt(text.length() - 1) == '(' ? "" : ",").append(type.getName());
            }
            text.append("):").append(m.getReturnType().getName());
            if (Modifier.isPrivate(m.getModifiers())) {
                hidden.add(m.getName());
            } else {
                open.add((m.getModifiers() == Modifier.PUBLIC ? "" : "odd ") + text);
            }
        }
        Due.due("the face", String.join(" ", open), FACE);
        for (String name : hidden) {
            Due.due("a private method " + name, FACE.contains(name + "("), false);
        }
        Constructor<?>[] made = PlaneBench.class.getDeclaredConstructors();
        Due.due("constructors", made.length, 1);
        Due.due("it is public", made[0].getModifiers(), Modifier.PUBLIC);
        Due.due("it takes", made[0].getParameterTypes()[0].getName(), "int");
        Due.due("the class", PlaneBench.class.getModifiers(), Modifier.PUBLIC | Modifier.FINAL);
        for (Field f : PlaneBench.class.getDeclaredFields()) {
            boolean constant = f.getName().equals("NONE");
            Due.due(f.getName() + " is private", Modifier.isPrivate(f.getModifiers()), !constant);
            Due.due(f.getName() + " is static and not final",
                Modifier.isStatic(f.getModifiers()) && !Modifier.isFinal(f.getModifiers()), false);
        }
    }

    private static void source(String text) {
        for (int i = 0; i < text.length(); i++) {
            if (text.charAt(i) > 126) {
                Due.due("a character at " + i, text.charAt(i), ' ');
            }
        }
        Matcher imports = Pattern.compile("(?m)^import (.*);").matcher(text);
        while (imports.find()) {
            Due.due("an import", imports.group(1), "java.util.Arrays");
        }
    }
}
