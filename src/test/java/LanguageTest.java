import java.lang.reflect.Field;
import java.lang.reflect.Method;
import java.lang.reflect.Modifier;
import java.nio.file.Files;
import java.nio.file.Path;
import java.util.ArrayList;
import java.util.Arrays;
import java.util.HashMap;
import java.util.List;
import java.util.Map;
import java.util.Set;
import java.util.TreeSet;
import java.util.regex.Matcher;
import java.util.regex.Pattern;
import java.util.stream.Collectors;

/** The document's face, and the rules of LANGUAGE.md that can be seen from the source and by reflection. */
public final class LanguageTest {
    private static final Path SOURCE = Path.of("src/main/java/ThreeDots.java");
    private static final List<String> FACE = List.of(
        "int state(int)", "boolean set(int, int, int)", "int say(int, int, int, boolean)", "boolean takeBack(int)",
        "int ring()", "int minutes(int)", "int feed(int, int, int, int, int)", "boolean end(int)", "int text(int)",
        "int fault(int)", "int of(int, int)", "int message(int, int)", "int asks(int, int)", "int book(int, int)",
        "int goes(int, int)", "int copies(int, int, int)", "int sure(int, int, int)", "int needs(int, int)",
        "int waits(int)", "int which(int)", "int drift(int, int)", "int pauses(int, int)", "int time(int)",
        "int fits(int)", "int game(int)", "boolean table(int, int, int)", "int rests()", "int deletes(int, int, int)",
        "int thread(int)", "int crossed()", "int awake(int, int)", "int mirrors(int, int)", "int ease(int, int, int)",
        "int split(int)", "boolean undo()", "boolean image(boolean)", "int look(int)");
    private static int wrong = 0;

    public static void main(String[] args) throws Exception {
        face();
        nested();
        String code = withoutCommentsAndTexts(Files.readString(SOURCE));
        words(code);
        library(code);
        methodLengths(code);
        List<Written> methods = writtenMethods(code);
        callsGoEightDeep(methods);
        madeInConstructors(methods);
        room();
        System.out.println(wrong == 0 ? "the language is kept to" : wrong + " rules are not kept");
        System.exit(wrong == 0 ? 0 : 1);
    }

    private static void holds(String rule, boolean so) {
        if (!so) {
            wrong++;
            System.out.println("not kept: " + rule);
        }
    }

    private static boolean isPrivate(int modifiers) {
        return Modifier.isPrivate(modifiers);
    }

    private static String shape(Method m) {
        return m.getReturnType().getName() + " " + m.getName() + "("
            + Arrays.stream(m.getParameterTypes()).map(Class::getName).collect(Collectors.joining(", ")) + ")";
    }

    private static void face() {
        Class<?> c = ThreeDots.class;
        holds("1: public and final", Modifier.isPublic(c.getModifiers()) && Modifier.isFinal(c.getModifiers()));
        Set<String> open = new TreeSet<>();
        Set<String> names = new TreeSet<>();
        for (Method m : c.getDeclaredMethods()) {
            if (!isPrivate(m.getModifiers())) {
                open.add(shape(m));
                names.add(m.getName());
                holds("1: public " + m, Modifier.isPublic(m.getModifiers()) && !Modifier.isStatic(m.getModifiers()));
            }
        }
        holds("1: the face " + open, open.equals(new TreeSet<>(FACE)));
        for (Method m : c.getDeclaredMethods()) {
            holds("1: name " + m, !isPrivate(m.getModifiers()) || !names.contains(m.getName()));
        }
        for (Field f : c.getDeclaredFields()) {
            holds("1: field " + f, isPrivate(f.getModifiers()) || f.getName().equals("NONE"));
            holds("5: static field " + f, !Modifier.isStatic(f.getModifiers()) || Modifier.isFinal(f.getModifiers()));
        }
        holds("1: one constructor", c.getDeclaredConstructors().length == 1
            && Modifier.isPublic(c.getDeclaredConstructors()[0].getModifiers()));
    }

    private static void nested() {
        Class<?>[] inside = ThreeDots.class.getDeclaredClasses();
        holds("11: twelve classes", inside.length < 12);
        Set<String> names = Arrays.stream(ThreeDots.class.getMethods()).map(Method::getName)
            .collect(Collectors.toCollection(TreeSet::new));
        for (Class<?> c : inside) {
            holds("2: static " + c, Modifier.isStatic(c.getModifiers()) && !Modifier.isPublic(c.getModifiers()));
            int fields = 0;
            for (Field f : c.getDeclaredFields()) {
                boolean fixed = Modifier.isStatic(f.getModifiers());
                fields += fixed ? 0 : 1;
                holds("5: " + f, !fixed || Modifier.isFinal(f.getModifiers()));
            }
            holds("11: fields of " + c, fields <= 20);
            for (Method m : c.getDeclaredMethods()) {
                holds("11: parameters of " + m, m.getParameterCount() <= 7);
                holds("1: name " + m, !names.contains(m.getName()));
            }
        }
    }

    private static String withoutCommentsAndTexts(String source) {
        return source.replaceAll("(?s)/\\*.*?\\*/", "").replaceAll("//[^\n]*", "")
            .replaceAll("\"[^\"\n]*\"", "\"\"");
    }

    private static void words(String code) {
        for (String word : List.of("throw", "throws", "try", "catch", "synchronized", "assert", "import", "package",
                "native", "volatile", "transient", "goto", "var", "null", "protected", "double", "float")) {
            holds("word " + word, !Pattern.compile("\\b" + word + "\\b").matcher(code).find());
        }
        holds("2: no lambda", !code.contains("->") && !code.contains("::"));
        holds("10: texts are not joined by +", !Pattern.compile("\"\\s*\\+|\\+\\s*\"").matcher(code).find());
        holds("9: no endless loop",
            !Pattern.compile("while\\s*\\(\\s*true|for\\s*\\([^;]*;\\s*;").matcher(code).find());
    }

    private static void library(String code) {
        Set<String> allowed = Set.of("Math.max", "Math.min", "Math.abs", "Integer.compare", "Integer.bitCount",
            "System.arraycopy");
        Matcher m = Pattern.compile("\\b(Math|Integer|Long|System|Arrays|String|Object|Character)\\.\\w+").matcher(code);
        while (m.find()) {
            holds("4: " + m.group(), allowed.contains(m.group()));
        }
    }

    private static void methodLengths(String code) {
        int depth = 0;
        int start = 0;
        String[] lines = code.split("\n", -1);
        Map<Integer, Integer> opened = new HashMap<>();
        for (int i = 0; i < lines.length; i++) {
            for (char c : lines[i].toCharArray()) {
                if (c == '{') {
                    opened.put(depth, i);
                    depth++;
                } else if (c == '}') {
                    depth--;
                    start = opened.get(depth);
                    boolean method = lines[start].matches("\\s+(?!.*\\bclass\\b).*\\w+\\(.*\\) \\{")
                        && !lines[start].matches("\\s*(\\} else )?(if|for|while|switch)\\b.*");
                    holds("11: sixty lines at " + (start + 1), !method || i - start < 60);
                }
            }
        }
        holds("the source is whole", depth == 0);
    }

    /** A method or constructor as it is written down, with the class it stands in. */
    private record Written(String in, String name, String body) {
        boolean isConstructor() {
            return in.equals(name);
        }
    }

    private static List<Written> writtenMethods(String code) {
        Pattern header = Pattern.compile("(?m)^( {4}| {8})((?:public |private |static |final )*)(class )?"
            + "(?:[\\w\\[\\]]+ )?(\\w+)(?:\\([^)]*\\))? \\{$");
        List<Written> methods = new ArrayList<>();
        String inside = "";
        Matcher m = header.matcher(code);
        while (m.find()) {
            String name = m.group(4);
            if (m.group(3) != null) {
                inside = name;
                continue;
            }
            int end = code.indexOf("\n" + m.group(1) + "}", m.end());
            methods.add(new Written(m.group(1).length() == 4 ? "ThreeDots" : inside, name, code.substring(m.end(), end)));
        }
        holds("the methods are found", methods.stream().filter(w -> w.in.equals("ThreeDots")).count() >= FACE.size());
        return methods;
    }

    /** Recursion counts once: on no way down does a method stand twice. */
    private static void callsGoEightDeep(List<Written> methods) {
        int deepest = 0;
        for (Written w : methods) {
            deepest = Math.max(deepest, deepestFrom(w, methods, new ArrayList<>()));
        }
        System.out.println("calls go " + deepest + " deep");
        holds("11: calls go at most eight deep, but " + deepest, deepest <= 8);
        holds("11: the calls are found", deepest >= 6);
    }

    private static int deepestFrom(Written w, List<Written> methods, List<Written> way) {
        way.add(w);
        int below = 0;
        Matcher call = Pattern.compile("(\\.)?\\b(\\w+)\\(").matcher(w.body);
        while (call.find()) {
            boolean qualified = call.group(1) != null;
            for (Written next : methods) {
                boolean sameClass = next.in.equals(w.in);
                if (next.name.equals(call.group(2)) && (qualified || sameClass || next.isConstructor())
                        && !way.contains(next)) {
                    below = Math.max(below, deepestFrom(next, methods, way));
                }
            }
        }
        way.remove(w);
        return below + 1;
    }

    private static void madeInConstructors(List<Written> methods) {
        for (Written w : methods) {
            holds("room: nothing is made by " + w.in + "." + w.name,
                w.isConstructor() || !Pattern.compile("\\bnew\\b").matcher(w.body).find());
        }
    }

    /** The objects and elements of one object of the class, counted through all its fields. */
    private static void room() throws Exception {
        long[] count = new long[2];
        Set<Object> seen = java.util.Collections.newSetFromMap(new java.util.IdentityHashMap<>());
        count(new ThreeDots(), seen, count);
        System.out.println("a new object: " + count[0] + " objects and arrays, " + count[1] + " fields and elements");
        holds("room: 512 new ones in one run", count[0] * 512 < 600_000 && count[1] * 512 < 7_300_000);
    }

    private static void count(Object o, Set<Object> seen, long[] count) throws Exception {
        if (o == null || !seen.add(o) || o instanceof String) {
            return;
        }
        count[0]++;
        if (o.getClass().isArray()) {
            int length = java.lang.reflect.Array.getLength(o);
            count[1] += length;
            for (int i = 0; i < length && !o.getClass().getComponentType().isPrimitive(); i++) {
                count(java.lang.reflect.Array.get(o, i), seen, count);
            }
            return;
        }
        for (Field f : o.getClass().getDeclaredFields()) {
            if (!Modifier.isStatic(f.getModifiers())) {
                count[1]++;
                f.setAccessible(true);
                if (!f.getType().isPrimitive()) {
                    count(f.get(o), seen, count);
                }
            }
        }
    }
}
