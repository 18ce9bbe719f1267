import java.io.IOException;
import java.lang.reflect.Field;
import java.lang.reflect.Method;
import java.lang.reflect.Modifier;
import java.nio.file.Files;
import java.nio.file.Path;
import java.util.Arrays;
import java.util.Map;
import java.util.Set;
import java.util.TreeMap;
import java.util.TreeSet;
import java.util.regex.Matcher;
import java.util.regex.Pattern;

/** The public face is the document's, and the file keeps to the rules of LANGUAGE.md that a text shows. */
public final class FaceTest {
    private static final String FACE = "blank(int,int,int)int edit(int,boolean)int make(int,int,int,int,int,int)int "
        + "mended()int count(int)int neighbour(int,int)int mined(int)boolean open(int)int flag(int)int chord(int)int "
        + "undo()int shown(int)int solved()boolean clicks()int hint(int)int kind()int reason(int)int total()boolean "
        + "take()int tell(int,boolean)int name(boolean)int check(int,int)int ways()int with(int)int";
    private static final Set<String> LIBRARY =
        Set.of("java.util.ArrayList", "java.util.List", "java.util.Arrays", "java.util.Iterator");
    private static final Checks ask = new Checks();

    private static String signature(Method method) {
        StringBuilder text = new StringBuilder(method.getName()).append('(');
        Class<?>[] parameters = method.getParameterTypes();
        for (int i = 0; i < parameters.length; i++) {
            text.append(i == 0 ? "" : ",").append(parameters[i].getName());
        }
        return text.append(')').append(method.getReturnType().getName()).toString();
    }

    private static void face() {
        ask.about("the public face");
        ask.due("the class is public and final", MineDesk.class.getModifiers(), Modifier.PUBLIC | Modifier.FINAL);
        Set<String> due = new TreeSet<>(Arrays.asList(FACE.split(" ")));
        Set<String> names = new TreeSet<>();
        for (String one : due) {
            names.add(one.substring(0, one.indexOf('(')));
        }
        Set<String> found = new TreeSet<>();
        for (Method method : MineDesk.class.getDeclaredMethods()) {
            if (Modifier.isPublic(method.getModifiers())) {
                found.add(signature(method));
            } else {
                ask.due(method + " is private", Modifier.isPrivate(method.getModifiers()), true);
                ask.due(method + " has a name of its own", names.contains(method.getName()), false);
            }
        }
        ask.due("the public methods are " + found, found.equals(due), true);
        ask.due("constructors", MineDesk.class.getConstructors().length, 1);
        ask.due("constructors in all", MineDesk.class.getDeclaredConstructors().length, 1);
        nested(names);
    }

    /** The bounds of rule 11 are "some" so many, and so a little more than that passes. */
    private static void nested(Set<String> names) {
        Class<?>[] classes = MineDesk.class.getDeclaredClasses();
        ask.due("some twelve classes at most", classes.length <= 14, true);
        fields(MineDesk.class);
        for (Class<?> one : classes) {
            int modifiers = one.getModifiers();
            ask.due(one + " is static", Modifier.isStatic(modifiers), true);
            ask.due(one + " isn't public", Modifier.isPublic(modifiers) || Modifier.isProtected(modifiers), false);
            fields(one);
            for (Method method : one.getDeclaredMethods()) {
                boolean twice = Modifier.isPrivate(method.getModifiers()) && names.contains(method.getName());
                ask.due(method + " has a name of its own", twice, false);
            }
        }
    }

    private static void fields(Class<?> one) {
        int fields = 0;
        for (Field field : one.getDeclaredFields()) {
            boolean constant = Modifier.isStatic(field.getModifiers());
            fields += constant ? 0 : 1;
            ask.due(field + " is final if it is static", !constant || Modifier.isFinal(field.getModifiers()), true);
        }
        ask.due(one + " has some twenty fields at most", fields <= 22, true);
    }

    private static void constants() throws IllegalAccessException {
        ask.about("the constants");
        Map<String, Integer> due = new TreeMap<>(Map.of("NUMBER", -1, "STATE", -2, "LONG", -3, "FULL", -4, "HIT", -5));
        int found = 0;
        for (Field field : MineDesk.class.getDeclaredFields()) {
            int modifiers = field.getModifiers();
            if (!Modifier.isPrivate(modifiers)) {
                found++;
                ask.due(field.getName() + " is of the document", due.containsKey(field.getName()), true);
                ask.due(field.getName(), field.getInt(null), due.getOrDefault(field.getName(), 0));
                int constant = Modifier.PUBLIC | Modifier.STATIC | Modifier.FINAL;
                ask.due(field.getName() + " is a public constant", modifiers, constant);
            }
        }
        ask.due("how many", found, due.size());
    }

    private static void text() throws IOException {
        ask.about("LANGUAGE.md");
        String source = Files.readString(Path.of("src/main/java/MineDesk.java"));
        String code = source.replaceAll("(?s)/\\*.*?\\*/", "").replaceAll("//[^\n]*", "");
        String[] never = {"throw", "throws", "try", "catch", "synchronized", "assert", "package", "Thread", "Random",
            "Runtime", "HashMap", "currentTimeMillis", "nanoTime", "getenv", "getProperty"};
        for (String word : never) {
            ask.due("no " + word, Pattern.compile("\\b" + word + "\\b").matcher(code).find(), false);
        }
        ask.due("of System arraycopy alone", code.replace("System.arraycopy", "").contains("System"), false);
        ask.due("nothing that ends in Exact", code.contains("Exact("), false);
        ask.due("no lambda", code.replaceAll("(case [^\n]*?|default) ->", "").contains("->"), false);
        ask.due("no method reference", code.contains("::"), false);
        Matcher imports = Pattern.compile("\\bimport ([\\w.*]+);").matcher(code);
        while (imports.find()) {
            ask.due("import " + imports.group(1), LIBRARY.contains(imports.group(1)), true);
        }
        lengths(code);
    }

    private static void lengths(String code) {
        Matcher method = Pattern.compile("\n( +)[\\w ]*\\w+\\(([^)]*)\\) \\{\n(.*?)\n\\1\\}", Pattern.DOTALL).matcher(code);
        while (method.find()) {
            ask.due("some 60 lines at most: " + method.group(), method.group(3).split("\n").length <= 66, true);
            ask.due("at most 7 parameters: " + method.group(2), method.group(2).split(",").length <= 7, true);
        }
    }

    public static void main(String[] args) throws IOException, IllegalAccessException {
        face();
        constants();
        text();
        ask.end();
    }
}
