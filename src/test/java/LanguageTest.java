import java.io.IOException;
import java.io.PrintWriter;
import java.io.StringWriter;
import java.lang.reflect.Constructor;
import java.lang.reflect.Field;
import java.lang.reflect.Method;
import java.lang.reflect.Modifier;
import java.nio.file.Files;
import java.nio.file.Path;
import java.util.ArrayList;
import java.util.HashMap;
import java.util.HashSet;
import java.util.List;
import java.util.Map;
import java.util.Set;
import java.util.TreeSet;
import java.util.regex.Matcher;
import java.util.regex.Pattern;
import java.util.spi.ToolProvider;

/** What of LANGUAGE.md a machine can see: the face, the words that may not stand, how long and how deep it goes. */
public final class LanguageTest {
    private static final Due due = new Due();
    private static final Path SOURCE = Path.of("src/main/java/OnePlan.java");
    private static final String FACE = "type/2 wipe/1 fault/1 plan/1 tell/1 histories/0 said/2 look/3 looks/1 parts/2 "
        + "sound/0 moment/1 mended/0 run/3 step/3 longest/3 trips/2 lost/4 fits/1 breach/1 log/1 clear/0 left/1 out/1 "
        + "ask/0 sheet/3 lose/1 put/4 get/3 copy/5 write/2 count/1 digest/0";

    public static void main(String[] args) throws IOException, ReflectiveOperationException {
        String code = withoutComments(Files.readString(SOURCE));
        words(code);
        lengths(code);
        face();
        classes();
        depth();
        due.end("LanguageTest");
    }

    private static String withoutComments(String source) {
        return source.replaceAll("(?s)/\\*.*?\\*/", "").replaceAll("//[^\n]*", "").replaceAll("'.'", "0");
    }

    private static void words(String code) {
        String[] refused = {"throw", "throws", "try", "catch", "synchronized", "assert", "import", "package", "native",
            "volatile", "transient", "System", "Object", "Thread", "Random", "protected", "hashCode", "toString",
            "MIN_VALUE", "MAX_VALUE"};
        for (String word : refused) {
            due.is("rule 4 or 6: " + word, Pattern.compile("\\b" + word + "\\b").matcher(code).find() ? 1 : 0, 0);
        }
        String[] signs = {"->", "::", "@", "static {", "\""};
        for (String sign : signs) {
            due.is("rule 2, 5 or 6: " + sign, code.contains(sign) ? 1 : 0, 0);
        }
        due.is("signs 1 to 127", code.chars().allMatch(c -> c > 0 && c < 128) ? 0 : 1, 0);
    }

    /** A method begins four or eight spaces in, and its closing brace stands as far in. */
    private static void lengths(String code) {
        String[] lines = code.split("\n");
        Pattern head = Pattern.compile("^( {4}| {8})\\w[^=;]*\\([^;]*\\) \\{$");
        for (int i = 0; i < lines.length; i++) {
            Matcher begins = head.matcher(lines[i]);
            if (begins.matches()) {
                int end = i;
                while (!lines[end].equals(begins.group(1) + "}")) {
                    end++;
                }
                due.is("rule 11, too long: " + lines[i].trim(), end - i > 60 ? end - i : 0, 0);
            }
        }
    }

    private static void face() throws ReflectiveOperationException {
        Set<String> names = new TreeSet<>();
        Set<String> hidden = new HashSet<>();
        for (Method method : OnePlan.class.getDeclaredMethods()) {
            if (Modifier.isPrivate(method.getModifiers())) {
                hidden.add(method.getName());
            } else {
                due.is("public: " + method, Modifier.isPublic(method.getModifiers()) ? 1 : 0, 1);
                due.is("of the object: " + method, Modifier.isStatic(method.getModifiers()) ? 1 : 0, 0);
                Class<?> answer = method.getName().equals("digest") ? long.class : int.class;
                due.is("answer of " + method, method.getReturnType() == answer ? 1 : 0, 1);
                names.add(method.getName() + "/" + method.getParameterCount());
            }
        }
        due.is("the face", names.equals(new TreeSet<>(List.of(FACE.split(" ")))) ? 1 : 0, 1);
        for (String name : names) {
            due.is("rule 1, private too: " + name, hidden.contains(name.split("/")[0]) ? 1 : 0, 0);
        }
        for (Constructor<?> made : OnePlan.class.getDeclaredConstructors()) {
            due.is("the constructor", Modifier.isPublic(made.getModifiers()) ? made.getParameterCount() : -1, 0);
        }
        for (Field field : OnePlan.class.getDeclaredFields()) {
            boolean constant = "NONE BAD NOT FULL".contains(field.getName());
            due.is("visible: " + field, Modifier.isPrivate(field.getModifiers()) == constant ? 1 : 0, 0);
        }
        due.is("final", Modifier.isFinal(OnePlan.class.getModifiers()) ? 1 : 0, 1);
    }

    private static void classes() {
        Class<?>[] inside = OnePlan.class.getDeclaredClasses();
        due.is("rule 11: more than twelve classes", inside.length + 1 > 12 ? inside.length + 1 : 0, 0);
        List<Class<?>> all = new ArrayList<>(List.of(inside));
        all.add(OnePlan.class);
        for (Class<?> each : all) {
            if (each != OnePlan.class) {
                due.is("rule 1, static: " + each, Modifier.isStatic(each.getModifiers()) ? 1 : 0, 1);
                due.is("rule 1, public: " + each, Modifier.isPublic(each.getModifiers()) ? 1 : 0, 0);
            }
            int fields = 0;
            for (Field field : each.getDeclaredFields()) {
                boolean isStatic = Modifier.isStatic(field.getModifiers());
                fields += isStatic ? 0 : 1;
                boolean constant = Modifier.isFinal(field.getModifiers()) && field.getType() == int.class;
                due.is("rule 5: " + field, !isStatic || constant ? 1 : 0, 1);
            }
            due.is("rule 11, fields of " + each, fields > 20 ? fields : 0, 0);
            for (Method method : each.getDeclaredMethods()) {
                due.is("rule 11, parameters of " + method, method.getParameterCount() > 7 ? 1 : 0, 0);
            }
        }
    }

    /** Rules 8 and 11: no recursion at all, and calls at most eight deep. */
    private static void depth() {
        Map<String, Set<String>> calls = new HashMap<>();
        List<String> names = new ArrayList<>(List.of("OnePlan"));
        for (Class<?> inside : OnePlan.class.getDeclaredClasses()) {
            names.add(inside.getName());
        }
        for (String name : names) {
            readCalls(name, calls);
        }
        due.is("methods seen", calls.size() > 100 ? 1 : 0, 1);
        int deepest = 0;
        for (String method : calls.keySet()) {
            deepest = Math.max(deepest, deepFrom(method, calls, new ArrayList<>()));
        }
        System.out.println("the deepest call: " + deepest);
        due.is("rule 11: calls deeper than eight", deepest > 8 ? deepest : 0, 0);
    }

    private static void readCalls(String name, Map<String, Set<String>> calls) {
        String place = OnePlan.class.getProtectionDomain().getCodeSource().getLocation().getPath();
        StringWriter text = new StringWriter();
        ToolProvider javap = ToolProvider.findFirst("javap").orElseThrow();
        javap.run(new PrintWriter(text), new PrintWriter(text), "-c", "-p", "-s", "-cp", place, name);
        Pattern head = Pattern.compile("^  (?:\\S.* )?([\\w$]+)\\(.*\\);$");
        Pattern call = Pattern.compile("// Method (OnePlan[\\w$]*\\.)?\"?([\\w$<>]+)\"?:(\\S+)$");
        String method = null;
        String named = null;
        for (String line : text.toString().split("\n")) {
            Matcher begins = head.matcher(line);
            Matcher calling = call.matcher(line);
            if (begins.matches()) {
                named = begins.group(1).equals(name) ? "<init>" : begins.group(1);
            } else if (line.startsWith("    descriptor: ") && named != null) {
                method = name + "." + named + ":" + line.substring(16).trim();
                calls.put(method, new HashSet<>());
                named = null;
            } else if (calling.find() && method != null && !line.contains("java/")) {
                String owner = calling.group(1) == null ? name + "." : calling.group(1);
                calls.get(method).add(owner + calling.group(2) + ":" + calling.group(3));
            }
        }
    }

    private static int deepFrom(String method, Map<String, Set<String>> calls, List<String> open) {
        due.is("rule 8, recursion: " + method, open.contains(method) ? 1 : 0, 0);
        if (open.contains(method) || !calls.containsKey(method)) {
            due.is("known: " + method, calls.containsKey(method) ? 1 : 0, 1);
            return 0;
        }
        open.add(method);
        int deepest = 0;
        for (String called : calls.get(method)) {
            deepest = Math.max(deepest, deepFrom(called, calls, open));
        }
        open.remove(method);
        return deepest + 1;
    }
}
