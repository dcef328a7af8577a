import java.lang.reflect.Constructor;
import java.lang.reflect.Field;
import java.lang.reflect.Method;
import java.lang.reflect.Modifier;
import java.nio.file.Files;
import java.nio.file.Path;
import java.util.ArrayList;
import java.util.Arrays;
import java.util.HashSet;
import java.util.List;
import java.util.Set;
import java.util.TreeSet;
import java.util.regex.Matcher;
import java.util.regex.Pattern;

/** The rules of LANGUAGE.md that can be seen from the class or its text; runs from the project's folder. */
public final class LanguageTest {
    private static final Check c = new Check();
    private static final String FACE = "bell/1 vow/2 vows/3 mend/3 of/2 feed/1 law/0 puts/2 pitch/3 town/2 beats/2 chime/3 "
        + "days/3 fault/2 win/2 silent/2 heard/4 strike/3 judge/3 broke/4 cast/3 melt/3 pairs/1 drawn/4 breaks/1 keeps/1 "
        + "pass/1 ring/2 led/1 image/0 back/0 undo/0 redo/0 body/1 act/3 trace/1 keep/2 row/3 put/3 element/2 shift/5 "
        + "taken/2 count/1";

    public static void main(String[] args) throws Exception {
        face();
        inside();
        text();
        room();
        c.end();
    }

    private static void face() {
        c.promise("rule 1");
        Class<?> face = CastWithVows.class;
        c.that("public and final", Modifier.isPublic(face.getModifiers()) && Modifier.isFinal(face.getModifiers()));
        Set<String> want = new TreeSet<>(Arrays.asList(FACE.split(" ")));
        Set<String> open = new TreeSet<>();
        Set<String> names = new HashSet<>();
        for (Method m : face.getDeclaredMethods()) {
            if (!Modifier.isPrivate(m.getModifiers()) && !m.isSynthetic()) {
                open.add(m.getName() + "/" + m.getParameterCount());
                names.add(m.getName());
            }
        }
        c.that("its methods are " + open, open.equals(want));
        for (Method m : face.getDeclaredMethods()) {
            boolean hidden = Modifier.isPrivate(m.getModifiers());
            c.that("no private method named " + m.getName(), !hidden || !names.contains(m.getName()));
        }
        Constructor<?>[] made = face.getDeclaredConstructors();
        c.due("constructors", made.length, 1);
        c.that("a public one", Modifier.isPublic(made[0].getModifiers()));
        Set<String> constants = new TreeSet<>();
        for (Field f : face.getDeclaredFields()) {
            if (!Modifier.isPrivate(f.getModifiers())) {
                constants.add(f.getName());
            }
        }
        c.that("its constants are " + constants, constants.equals(new TreeSet<>(List.of("BAD", "NOT", "FULL", "STATE", "VOID"))));
    }

    private static void inside() {
        List<Class<?>> all = new ArrayList<>(Arrays.asList(CastWithVows.class.getDeclaredClasses()));
        all.add(CastWithVows.class);
        c.promise("rule 11");
        c.that("at most twelve classes", all.size() <= 12);
        for (Class<?> k : all) {
            int fields = 0;
            for (Field f : k.getDeclaredFields()) {
                boolean still = Modifier.isStatic(f.getModifiers());
                fields += still ? 0 : 1;
                c.promise("rule 5");
                c.that(k.getSimpleName() + "." + f.getName() + " is final if static", !still || Modifier.isFinal(f.getModifiers()));
            }
            c.promise("rule 11");
            c.that(k.getSimpleName() + " has at most twenty fields", fields <= 20);
            for (Method m : k.getDeclaredMethods()) {
                c.that(m.getName() + " takes at most seven", m.getParameterCount() <= 7);
            }
            c.promise("rule 2");
            c.that(k.getSimpleName() + " is static", k == CastWithVows.class || Modifier.isStatic(k.getModifiers()));
        }
    }

    private static void text() throws Exception {
        String source = Files.readString(Path.of("src/main/java/CastWithVows.java"));
        String code = source.replaceAll("(?s)/\\*.*?\\*/", " ").replaceAll("//[^\n]*", " ");
        c.promise("rules 2, 6, 10");
        for (String word : "throw throws try catch synchronized assert Exact equals hashCode toString double float".split(" ")) {
            c.that("no " + word, !Pattern.compile("\\b" + word + "\\b").matcher(code).find());
        }
        c.that("no lambda, no method reference", !code.contains("->") && !code.contains("::"));
        c.that("no other import", code.split("\\bimport\\b").length == 2 && code.contains("import java.util.Arrays;"));
        c.that("no package", !Pattern.compile("\\bpackage\\b").matcher(code).find());
        c.promise("rule 3");
        c.that("plain signs", source.chars().allMatch(s -> s == '\n' || s >= 32 && s < 127));
        c.promise("rule 11");
        Matcher m = Pattern.compile("(?m)^( {4}| {8})(?:[a-zA-Z]+(?:\\[\\])? )+\\w+\\([^;{]*\\{\n(?s:.*?)^\\1\\}").matcher(source);
        int methods = 0;
        while (m.find()) {
            methods++;
            int lines = m.group().split("\n").length;
            c.that("a method of " + lines + " lines: " + m.group().split("\n")[0].trim(), lines <= 60);
        }
        c.that("the methods were found", methods > 100);
    }

    /** What an object holds must be small, as all that a run makes lives in one room. */
    private static void room() throws Exception {
        c.promise("the room");
        int[] counted = new int[2];
        count(new CastWithVows(), new ArrayList<>(), counted);
        System.out.println("an object: " + counted[0] + " objects and arrays, " + counted[1] + " fields and elements");
        c.that("objects of one", counted[0] < 100);
        c.that("elements of one", counted[1] < 4000);
    }

    private static void count(Object o, List<Object> seen, int[] counted) throws Exception {
        for (Object s : seen) {
            if (s == o) {
                return;
            }
        }
        seen.add(o);
        counted[0]++;
        if (o.getClass().isArray()) {
            int n = java.lang.reflect.Array.getLength(o);
            counted[1] += n;
            for (int i = 0; i < n && !o.getClass().getComponentType().isPrimitive(); i++) {
                count(java.lang.reflect.Array.get(o, i), seen, counted);
            }
            return;
        }
        for (Field f : o.getClass().getDeclaredFields()) {
            if (!Modifier.isStatic(f.getModifiers())) {
                counted[1]++;
                f.setAccessible(true);
                if (!f.getType().isPrimitive() && f.get(o) != null) {
                    count(f.get(o), seen, counted);
                }
            }
        }
    }
}
