import java.lang.reflect.Field;
import java.lang.reflect.Method;
import java.lang.reflect.Modifier;
import java.nio.charset.StandardCharsets;
import java.nio.file.Files;
import java.nio.file.Path;
import java.util.ArrayList;
import java.util.HashMap;
import java.util.HashSet;
import java.util.List;
import java.util.Map;
import java.util.Set;
import java.util.TreeSet;
import java.util.regex.Matcher;
import java.util.regex.Pattern;
import java.util.spi.ToolProvider;

/** The document's face, and those rules of LANGUAGE.md that can be seen from outside. */
public final class LanguageTest {
    private static final String FACE = "alike(int,int,int):int ask(int,boolean):int beside(int,int,int):int "
            + "blame(int,boolean):int common(int,int,int):int covers(int):int depth(int):int end(int):boolean "
            + "fault(int):int feed(int,int,int,int,int):int fewest(int):int has(int):int held():int image():int "
            + "leans(int,int):int least(int):int lemma(int):int letter(int,int,int):int load(int):int "
            + "names(int,int):int octet(int):int on():boolean order(int):int pages(int,int):int proof():int "
            + "rest(int):int rule(int,int):int run(int,int):int seed(int):boolean stands():int step(int,int):int "
            + "term(int,int):int trials(int,int):int upon(int,int):int vital(int):int vitals(int):int whom():int "
            + "worth(int,int):int wrong():int";

    public static void main(String[] args) throws Exception {
        face();
        classes();
        source();
        depths();
        Told.close();
    }

    private static void due(String what, boolean is) {
        Told.due(what, is, true);
    }

    private static void face() {
        Class<?> it = LongProof.class;
        due("public and final", Modifier.isPublic(it.getModifiers()) && Modifier.isFinal(it.getModifiers()));
        Set<String> methods = new TreeSet<>();
        for (Method method : it.getDeclaredMethods()) {
            StringBuilder told = new StringBuilder(method.getName()).append('(');
            for (Class<?> type : method.getParameterTypes()) {
                told.append(told.charAt(told.length() - 1) == '(' ? "" : ",").append(type.getName());
            }
            told.append("):").append(method.getReturnType().getName());
            if (Modifier.isPublic(method.getModifiers())) {
                methods.add(told.toString());
                due(told + " is no static", !Modifier.isStatic(method.getModifiers()));
            } else {
                due(told + " is private", Modifier.isPrivate(method.getModifiers()));
            }
        }
        due("the face is " + methods, String.join(" ", methods).equals(FACE));
        due("one constructor", it.getDeclaredConstructors().length == 1 && it.getConstructors().length == 1
                && it.getConstructors()[0].getParameterCount() == 0);
        for (Field field : it.getDeclaredFields()) {
            boolean isConstant = field.getName().equals("NONE") && Modifier.isPublic(field.getModifiers())
                    && Modifier.isStatic(field.getModifiers()) && field.getType() == int.class;
            due(field + " is private", Modifier.isPrivate(field.getModifiers()) || isConstant);
        }
    }

    private static void classes() {
        Set<String> open = new HashSet<>();
        for (Method method : LongProof.class.getMethods()) {
            open.add(method.getName());
        }
        Class<?>[] inside = LongProof.class.getDeclaredClasses();
        due("twelve classes at most", inside.length <= 11);
        for (Class<?> each : inside) {
            due(each + " is static", Modifier.isStatic(each.getModifiers()));
            due(each + " is not open", !Modifier.isPublic(each.getModifiers()) && !Modifier.isProtected(each.getModifiers()));
            for (Method method : each.getDeclaredMethods()) {
                due(method + " has a name of its own", !open.contains(method.getName()));
                due(method + " has seven parameters at most", method.getParameterCount() <= 7);
            }
            fields(each);
        }
        fields(LongProof.class);
        for (Method method : LongProof.class.getDeclaredMethods()) {
            due(method + " has a name of its own",
                    Modifier.isPublic(method.getModifiers()) || !open.contains(method.getName()));
        }
    }

    private static void fields(Class<?> each) {
        int count = 0;
        for (Field field : each.getDeclaredFields()) {
            if (Modifier.isStatic(field.getModifiers())) {
                due(field + " is final", Modifier.isFinal(field.getModifiers()));
            } else {
                count++;
            }
        }
        due(each + " has twenty fields at most, not " + count, count <= 20);
    }

    private static void source() throws Exception {
        String source = Files.readString(Path.of("src/main/java/LongProof.java"), StandardCharsets.UTF_8);
        due("signs 1 to 127", source.chars().allMatch(c -> c > 0 && c < 128));
        String code = source.replaceAll("(?s)/\\*.*?\\*/", "").replaceAll("//[^\n]*", "").replaceAll("'[^']*'", "' '");
        String[] forbidden = {"throw", "throws", "try", "catch", "finally", "synchronized", "assert", "package", "volatile",
            "native", "protected", "Object", "System.out", "Random", "Thread", "Exact"};
        for (String word : forbidden) {
            due("no " + word, !Pattern.compile("\\b" + Pattern.quote(word) + "\\b").matcher(code).find());
        }
        due("no lambda, no method reference", !code.contains("->") && !code.contains("::"));
        due("no static block", !Pattern.compile("static\\s*\\{").matcher(code).find());
        Matcher imports = Pattern.compile("import ([^;]+);").matcher(code);
        while (imports.find()) {
            due("import " + imports.group(1), imports.group(1).equals("java.util.Arrays"));
        }
        Matcher library = Pattern.compile("\\b(Arrays|Math|Integer|Long|System)\\.(\\w+)").matcher(code);
        Set<String> used = Set.of("Arrays.fill", "Math.max", "Math.min", "Math.abs", "Integer.bitCount", "Long.bitCount");
        while (library.find()) {
            due(library.group() + " is known", used.contains(library.group()));
        }
        lengths(code);
        made(code);
    }

    /** A method stands between two lines that begin and end it, as deep as each other. */
    private static void lengths(String code) {
        String[] lines = code.split("\n");
        Pattern head = Pattern.compile("^( {4}| {8})(?! )[\\w\\[\\] ]*\\w+\\([^;=]*\\) \\{$");
        int methods = 0;
        for (int k = 0; k < lines.length; k++) {
            Matcher matcher = head.matcher(lines[k]);
            if (matcher.find()) {
                int last = k + 1;
                while (!lines[last].equals(matcher.group(1) + "}")) {
                    last++;
                }
                methods++;
                due(lines[k].trim() + " has " + (last - k + 1) + " lines", last - k < 60);
            }
        }
        due("methods were found, " + methods, methods > 100);
    }

    /** Calls go eight deep at most, and none comes back to itself: rules 8 and 11, seen in what javac made. */
    private static void depths() throws Exception {
        List<String> words = new ArrayList<>(List.of("-c", "-p"));
        Path made = Path.of(LongProof.class.getProtectionDomain().getCodeSource().getLocation().toURI());
        words.add(made.resolve("LongProof.class").toString());
        for (Class<?> each : LongProof.class.getDeclaredClasses()) {
            words.add(made.resolve(each.getName() + ".class").toString());
        }
        java.io.StringWriter out = new java.io.StringWriter();
        ToolProvider javap = ToolProvider.findFirst("javap").orElse(null);
        if (javap == null) {
            System.out.println("there is no javap: how deep calls go is not looked at");
            return;
        }
        javap.run(new java.io.PrintWriter(out), new java.io.PrintWriter(out), words.toArray(new String[0]));
        Map<String, Set<String>> calls = calls(out.toString());
        due("methods were found, " + calls.size(), calls.size() > 100);
        for (String method : calls.keySet()) {
            due(method + " calls eight deep at most", deep(calls, method, 1) <= 8);
        }
    }

    private static Map<String, Set<String>> calls(String told) {
        Map<String, Set<String>> calls = new HashMap<>();
        Pattern type = Pattern.compile("^(?:\\w+ )*class ([\\w$]+) \\{$");
        Pattern method = Pattern.compile("^ {2}\\S.*?([\\w$]+)\\(.*\\);$");
        Pattern call = Pattern.compile("// Method (?:(LongProof[\\w$]*)\\.)?\"?([\\w<>]+)\"?:");
        String now = "";
        String at = "";
        for (String line : told.split("\\R")) {
            Matcher types = type.matcher(line);
            Matcher methods = method.matcher(line);
            Matcher called = call.matcher(line);
            if (types.find()) {
                now = types.group(1);
            } else if (methods.find()) {
                at = now + "." + (methods.group(1).equals(now) ? "<init>" : methods.group(1));
                calls.put(at, new HashSet<>());
            } else if (called.find()) {
                calls.get(at).add((called.group(1) == null ? now : called.group(1)) + "." + called.group(2));
            }
        }
        return calls;
    }

    private static int deep(Map<String, Set<String>> calls, String method, int depth) {
        int most = depth;
        for (String called : depth > 8 ? Set.<String>of() : calls.getOrDefault(method, Set.of())) {
            most = Math.max(most, deep(calls, called, depth + 1));
        }
        return most;
    }

    /** Objects and arrays are made with the object alone: in fields and in the one constructor. */
    private static void made(String code) {
        int start = code.indexOf("public LongProof() {");
        int end = code.indexOf("\n    }", start);
        String elsewhere = code.substring(0, start) + code.substring(end);
        for (String line : elsewhere.split("\n")) {
            boolean isField = line.matches(" {8}final [\\w\\[\\]]+ \\w+ = new .*");
            due("made in a call:" + line, isField || !Pattern.compile("\\bnew\\b").matcher(line).find());
        }
    }
}
