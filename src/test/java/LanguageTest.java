import java.io.IOException;
import java.lang.reflect.Field;
import java.lang.reflect.Method;
import java.lang.reflect.Modifier;
import java.nio.file.Files;
import java.nio.file.Path;
import java.util.Arrays;
import java.util.HashMap;
import java.util.HashSet;
import java.util.List;
import java.util.Map;
import java.util.Set;
import java.util.TreeSet;
import java.util.regex.Matcher;
import java.util.regex.Pattern;

/** ../shared/LANGUAGE.md, as far as a look at the text and at the members of the class can tell. */
final class LanguageTest {
    private static final Check check = new Check("LanguageTest");
    private static final String FACE = " row/3 set/3 copy/5 drop/1 feed/1 city/0 fault/0 dawn/1 turn/1 wish/2 undo/0"
        + " person/2 gate/2 reach/1 steps/2 votes/2 ahead/2 round/1 won/3 kept/3 swap/2 best/1 laws/2 opened/4"
        + " sold/1 image/1 restore/1 kind/1 as/2 ask/2 trace/1 count/1 status/0";
    private static final List<String> CALLS = List.of("Arrays.fill", "Arrays.copyOf", "Arrays.copyOfRange",
        "System.arraycopy", "Math.max", "Math.min", "Math.abs", "Integer.bitCount");

    /** The first line of a method or a constructor, of the class or of one inside it: how far in it stands, its name. */
    private static final Pattern HEAD = Pattern.compile("( {4}(?: {4})?)(?:[\\w\\[\\]]+ )*(\\w+)\\([^()]*\\) \\{");

    public static void main(String[] args) throws IOException {
        String text = Files.readString(Path.of("src/main/java/VotedMap.java"));
        String code = withoutComments(text);
        signs(text);
        words(code);
        library(code);
        methodsAreShort(text);
        madeAtFirstAlone(code);
        callsGoNotDeep(code);
        face();
        classesInside();
        check.finish();
    }

    private static String withoutComments(String text) {
        return text.replaceAll("(?s)/\\*.*?\\*/", " ").replaceAll("//[^\n]*", " ");
    }

    private static void none(String rule, String pattern, String code) {
        Matcher m = Pattern.compile(pattern).matcher(code);
        check.due(rule + (m.find() ? ": " + m.group() : ""), m.reset().find() ? 1 : 0, 0);
    }

    private static void signs(String text) {
        none("only signs 1 to 127", "[^\\x01-\\x7f]", text);
        none("no package line", "(?m)^package", text);
    }

    private static void words(String code) {
        none("6: words", "\\b(throw|throws|try|catch|synchronized|assert|equals|hashCode|toString)\\b", code);
        none("2: no lambda, no method reference", "->|::", code);
        none("3: no list, text or number made", "\"|\\b(float|double|Object|Integer\\s+\\w|ArrayList|String)\\b", code);
        none("5: no static block", "static\\s*\\{", code);
        none("9: no loop without an end", "while\\s*\\(\\s*true|for\\s*\\([^;]*;\\s*;", code);
        none("13: no clock, no chance", "\\b(nanoTime|currentTimeMillis|random|Random|Thread)\\b", code);
    }

    private static void library(String code) {
        Matcher m = Pattern.compile("\\b(Arrays|System|Math|Integer|Long|Character)\\.\\w+").matcher(code);
        while (m.find()) {
            check.due("4: " + m.group(), CALLS.contains(m.group()) ? 1 : 0, 1);
        }
        Matcher i = Pattern.compile("import\\s+([\\w.*]+);").matcher(code);
        while (i.find()) {
            check.due("4: import " + i.group(1), i.group(1).equals("java.util.Arrays") ? 1 : 0, 1);
        }
    }

    private static void methodsAreShort(String text) {
        String[] lines = text.split("\n");
        int begun = 0;
        for (int i = 0; i < lines.length; i++) {
            if (lines[i].matches(" {4,8}[\\w\\[\\] ]+\\(.*\\) \\{")) {
                begun = i;
            }
            if (lines[i].matches(" {4,8}\\}")) {
                check.due("11: a method that ends in line " + (i + 1), i - begun > 60 && begun > 0 ? 1 : 0, 0);
                begun = 0;
            }
        }
    }

    /** "All calls of one run live in ONE room": no call makes an object or a row. */
    private static void madeAtFirstAlone(String code) {
        String method = "";
        String end = "";
        for (String line : code.split("\n")) {
            Matcher head = HEAD.matcher(line);
            if (head.lookingAt()) {
                method = head.group(2);
                end = head.group(1) + "}";
            } else if (line.equals(end)) {
                method = "";
            }
            boolean makes = line.matches(".*\\bnew\\b.*");
            check.due("something is made: " + line, makes && !method.isEmpty() && !method.equals("VotedMap") ? 1 : 0, 0);
        }
    }

    /** 11: what each method calls, by names (of two classes' methods of one name both are meant). */
    private static void callsGoNotDeep(String code) {
        Map<String, Set<String>> words = new HashMap<>();
        String method = "";
        for (String line : code.split("\n")) {
            Matcher head = HEAD.matcher(line);
            int from = 0;
            if (head.lookingAt()) {
                method = head.group(2);
                from = head.end();
                words.computeIfAbsent(method, m -> new HashSet<>());
            }
            Matcher call = Pattern.compile("(\\w+)\\(").matcher(line.substring(from));
            while (!method.isEmpty() && call.find()) {
                words.get(method).add(call.group(1));
            }
        }
        check.due("methods are found", words.size() > 60 ? 1 : 0, 1);
        for (String name : words.keySet()) {
            int deep = depth(words, name, 0);
            check.due("11: " + name + " calls " + deep + " deep", deep > 8 ? 1 : 0, 0);
        }
    }

    /** How many calls stand open at most, of this one on; a call of itself is a recursion, and is not counted. */
    private static int depth(Map<String, Set<String>> words, String name, int open) {
        int deepest = 0;
        for (String called : words.get(name)) {
            if (open < 20 && !called.equals(name) && words.containsKey(called)) {
                deepest = Math.max(deepest, depth(words, called, open + 1));
            }
        }
        return 1 + deepest;
    }

    private static void face() {
        TreeSet<String> members = new TreeSet<>();
        for (Method m : VotedMap.class.getDeclaredMethods()) {
            if (!Modifier.isPrivate(m.getModifiers()) && !m.isSynthetic()) {
                members.add(m.getName() + "/" + m.getParameterCount());
                check.due(m.getName() + " answers int", m.getReturnType() == int.class ? 1 : 0, 1);
                check.due(m.getName() + " is of the object", m.getModifiers(), Modifier.PUBLIC);
                for (Class<?> told : m.getParameterTypes()) {
                    check.due(m.getName() + " is told ints", told == int.class ? 1 : 0, 1);
                }
            }
        }
        check.due("1: the face is " + members, members.equals(new TreeSet<>(Arrays.asList(FACE.trim().split(" ")))) ? 1 : 0, 1);
        for (Field f : VotedMap.class.getDeclaredFields()) {
            boolean told = List.of("NONE", "BAD", "STATE", "FULL").contains(f.getName());
            check.due("1: " + f.getName(), Modifier.isPublic(f.getModifiers()) ? 1 : 0, told ? 1 : 0);
            check.due("1: " + f.getName(), Modifier.isPrivate(f.getModifiers()) ? 1 : 0, told ? 0 : 1);
        }
        check.due("public and final", VotedMap.class.getModifiers(), Modifier.PUBLIC | Modifier.FINAL);
        check.due("one constructor", VotedMap.class.getDeclaredConstructors().length, 1);
        check.due("it is public", VotedMap.class.getConstructors().length, 1);
        check.due("it is told nothing", VotedMap.class.getDeclaredConstructors()[0].getParameterCount(), 0);
        privateNames(VotedMap.class);
    }

    private static void privateNames(Class<?> c) {
        for (Method m : c.getDeclaredMethods()) {
            boolean isPublic = Modifier.isPublic(m.getModifiers());
            check.due("1: a name of the face: " + m, !isPublic && FACE.contains(" " + m.getName() + "/") ? 1 : 0, 0);
            check.due("11: parameters of " + m, m.getParameterCount() > 7 ? 1 : 0, 0);
        }
        int fields = 0;
        for (Field f : c.getDeclaredFields()) {
            if (Modifier.isStatic(f.getModifiers())) {
                check.due("5: " + f, Modifier.isFinal(f.getModifiers()) && f.getType().isPrimitive() ? 1 : 0, 1);
            } else {
                fields++;
            }
        }
        check.due("11: fields of " + c, fields > 20 ? 1 : 0, 0);
    }

    private static void classesInside() {
        Class<?>[] inside = VotedMap.class.getDeclaredClasses();
        check.due("11: classes", inside.length + 1 > 12 ? 1 : 0, 0);
        for (Class<?> c : inside) {
            check.due("2: static " + c, Modifier.isStatic(c.getModifiers()) ? 1 : 0, 1);
            check.due("1: not public " + c, Modifier.isPublic(c.getModifiers()) ? 1 : 0, 0);
            privateNames(c);
        }
    }
}
