import java.lang.reflect.Constructor;
import java.lang.reflect.Field;
import java.lang.reflect.Method;
import java.lang.reflect.Modifier;
import java.nio.file.Files;
import java.nio.file.Path;
import java.util.Arrays;
import java.util.List;
import java.util.NoSuchElementException;
import java.util.Set;
import java.util.TreeSet;
import java.util.regex.Matcher;
import java.util.regex.Pattern;

/** The public face, and as much of LANGUAGE.md as can be looked at from outside. */
public final class FaceTest {
    private static final Check c = new Check("FaceTest");
    private static final String FACE = "sign 1 int;end 1 boolean;county 0 int;farm 2 int;stone 2 int;touch 3 boolean;"
            + "law 2 int;set 3 int;sheet 4 int;carry 2 int;night 0 int;week 2 int;weeks 1 int;undo 0 int;even 0 int;"
            + "fewest 0 int;reach 1 int;selfish 1 int;rests 1 int;alter 1 int;fill 2 int;colours 0 int;clique 0 int;"
            + "lowest 0 int;place 1 int;lasts 0 int;later 2 int;still 0 int;keeps 2 int;mercy 1 int;drought 1 int;"
            + "clash 2 int;payer 1 int;pray 1 int;seal 0 int;road 2 int;boon 0 int;seen 2 int;forget 0 int;"
            + "springs 1 int;stones 2 int;nights 0 int;sunday 0 int;divide 2 int;keep 1 boolean;again 1 boolean;"
            + "count 1 int;row 1 int";

    public static void main(String[] args) throws Exception {
        Set<String> due = new TreeSet<>(Arrays.asList(FACE.split(";")));
        Set<String> names = new TreeSet<>();
        Set<String> got = new TreeSet<>();
        for (Method m : WellsNotEven.class.getDeclaredMethods()) {
            if (!Modifier.isPrivate(m.getModifiers())) {
                got.add(m.getName() + " " + m.getParameterCount() + " " + m.getReturnType());
                names.add(m.getName());
                c.due(m.getName() + " is public", Modifier.isPublic(m.getModifiers()), true);
                c.due(m.getName() + " is no static", Modifier.isStatic(m.getModifiers()), false);
                c.due(m.getName() + " takes int", Arrays.stream(m.getParameterTypes()).allMatch(t -> t == int.class), true);
                boolean throwing = m.getName().equals("farm") || m.getName().equals("row");
                c.due(m.getName() + " throws", Arrays.asList(m.getExceptionTypes()).toString(),
                        (throwing ? List.of(NoSuchElementException.class) : List.of()).toString());
            }
        }
        c.due("the face", got.toString(), due.toString());
        c.due("the class", Modifier.toString(WellsNotEven.class.getModifiers()), "public final");
        Constructor<?>[] made = WellsNotEven.class.getDeclaredConstructors();
        c.due("one constructor", made.length, 1);
        c.due("it is public", Modifier.toString(made[0].getModifiers()), "public");
        fields();
        classes(names);
        source();
        c.finish();
    }

    private static void fields() {
        for (Field f : WellsNotEven.class.getDeclaredFields()) {
            boolean none = f.getName().equals("NONE");
            c.due(f.getName() + " is private", Modifier.isPrivate(f.getModifiers()), !none);
            c.due(f.getName(), none && Modifier.toString(f.getModifiers()).equals("public static final"), none);
        }
    }

    private static void classes(Set<String> names) {
        Class<?>[] inside = WellsNotEven.class.getDeclaredClasses();
        c.due("at most twelve classes", inside.length + 1 <= 12, true);
        for (Class<?> k : inside) {
            c.due(k + " is static", Modifier.isStatic(k.getModifiers()), true);
            c.due(k + " is not public", Modifier.isPublic(k.getModifiers()), false);
            members(k, names);
        }
        members(WellsNotEven.class, names);
    }

    private static void members(Class<?> k, Set<String> names) {
        int fields = 0;
        for (Field f : k.getDeclaredFields()) {
            if (Modifier.isStatic(f.getModifiers())) {
                c.due(f + " is final", Modifier.isFinal(f.getModifiers()), true);
            } else {
                fields++;
            }
        }
        c.due(k + " has at most 20 fields", fields <= 20, true);
        for (Method m : k.getDeclaredMethods()) {
            c.due(m + " takes at most seven", m.getParameterCount() <= 7, true);
            boolean bears = names.contains(m.getName()) && !Modifier.isPublic(m.getModifiers());
            c.due(m + " bears no public name", bears, false);
        }
    }

    private static void source() throws Exception {
        String text = Files.readString(Path.of("src/main/java/WellsNotEven.java"));
        String code = text.replaceAll("(?s)/\\*.*?\\*/", "").replaceAll("//.*", "");
        String[] banned = {"->", "::", "synchronized", "assert ", "finally", "catch", "try ", "Exact(", "Object",
            "System.out", "Random", "Thread", "hashCode", "toString(", "instanceof", "package ", " var ", "String "};
        for (String word : banned) {
            c.due("without '" + word + "'", code.contains(word), false);
        }
        Matcher imports = Pattern.compile("import ([a-zA-Z.*]+);").matcher(code);
        Set<String> got = new TreeSet<>();
        while (imports.find()) {
            got.add(imports.group(1));
        }
        c.due("imports", got.toString(), "[java.util.Arrays, java.util.NoSuchElementException]");
        Matcher thrown = Pattern.compile("throw new (\\w+)").matcher(code);
        while (thrown.find()) {
            c.due("throws", thrown.group(1), "NoSuchElementException");
        }
        bodies(code);
    }

    /** No method's body has more than sixty lines, and one that calls itself is private and static (rule 8). */
    private static void bodies(String code) {
        String start = null;
        int length = 0;
        int recursive = 0;
        for (String line : code.split("\n")) {
            if (start == null && line.matches(" {4}( {4})?[\\w\\[\\]]+( [\\w\\[\\]]+)*\\(.*\\{")) {
                start = line;
                length = 0;
            } else if (start != null) {
                length++;
                if (line.matches(".*(?<![.\\w])" + nameOf(start) + "\\(.*")) {
                    recursive++;
                    c.due(start.trim() + " calls itself, and is private static", start.contains(" private static "), true);
                }
                if (line.equals("    }") || line.equals("        }")
                        && start.startsWith("        ")) {
                    c.due(start.trim() + " is short", length <= 60, true);
                    start = null;
                }
            }
        }
        c.due("the last one ended", start == null, true);
        c.due("those that call themselves were met", recursive > 0, true);
    }

    private static String nameOf(String start) {
        return start.substring(0, start.indexOf('(')).replaceAll(".* ", "");
    }
}
