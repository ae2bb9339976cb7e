import java.io.IOException;
import java.lang.reflect.Constructor;
import java.lang.reflect.Field;
import java.lang.reflect.Method;
import java.lang.reflect.Modifier;
import java.nio.file.Files;
import java.nio.file.Path;
import java.util.ArrayList;
import java.util.Arrays;
import java.util.List;
import java.util.Map;
import java.util.Set;
import java.util.TreeMap;
import java.util.TreeSet;
import java.util.regex.Matcher;
import java.util.regex.Pattern;

/**
 * The document's face, and the rules of LANGUAGE.md, as far as they can be seen from the outside; arguments: the
 * source, the document.
 */
public final class Language {
    private static final String[] FACE = {
        "int sign(int)", "boolean end(int)", "int term()", "int label(int)", "int named()", "int labels(int)",
        "int links(int,int)", "int unlinks(int,int)", "int net()",
        "int place(int) throws java.util.NoSuchElementException",
        "int at(int) throws java.util.NoSuchElementException",
        "int would(int,int)", "int kin(int,int)", "int way(int,int)", "int ways(int,int)", "int between(int,int)",
        "int meets(int,int)", "int steps(int,int)", "int depth(int)", "int tops()", "int needless()",
        "int chains()", "int apart(int)", "int posts(int,int)", "int unposts(int,int)", "int search()",
        "int posted(int)", "int goes(int,int)", "int merges(int,int)", "int thins()", "int day()", "int undo()",
        "int years(int,int)", "boolean keep(int)", "boolean again(int)", "int count(int)",
        "long row(int) throws java.util.NoSuchElementException"};

    private static final String[] BARRED = {"->", "::", "\\bsynchronized\\b", "\\bassert\\b", "\\bfinally\\b",
        "\\btry\\b", "\\bcatch\\b", "\\bprotected\\b", "Exact\\b", "\\bSystem\\.(?!arraycopy)", "\\bwhile \\(true\\)",
        "\\bfor \\(;;\\)", "\\bequals\\b", "\\bhashCode\\b", "\\btoString\\b", "\" \\+", "\\+ \"", "\\bdouble\\b",
        "\\bfloat\\b", "\\bRandom\\b", "\\bThread\\b", "^import (?!java\\.util\\.NoSuchElementException;)",
        "^package\\b", "\\bstatic \\{", "throw new (?!NoSuchElementException\\(\")"};

    private static final Pattern HEAD = Pattern.compile(
        "^( {4}| {8})(?!(?:for|if|while|switch) )[a-zA-Z].*\\) ?(throws \\w+ )?\\{$");

    private Language() {
    }

    public static void main(String[] args) throws IOException {
        List<String> lines = Files.readAllLines(Path.of(args[0]));
        String doc = Files.readString(Path.of(args[1]));
        theDocumentsFace(lines, doc);
        theHeadings(lines, doc);
        theFace();
        theClassesInside();
        barredWords(lines);
        shortMethods(lines);
        depthOfCalls(lines);
        Check.finish("Language");
    }

    private static void fault(String what) {
        Check.due("rule broken: " + what, 1, 0);
    }

    /** Line by line as the document writes it, in its order, with the names of what is taken. */
    private static void theDocumentsFace(List<String> lines, String doc) {
        List<String> want = new ArrayList<>();
        Matcher m = Pattern.compile("(?m)^ +(public .*);$").matcher(doc);
        while (m.find()) {
            want.add(m.group(1));
        }
        Check.due("lines of the document's face", want.size(), FACE.length + 2);
        List<String> got = new ArrayList<>();
        for (String line : lines) {
            if (line.startsWith("    public ")) {
                got.add(line.trim().replaceAll("( \\{|;)$", ""));
            }
        }
        Check.due("the face is " + got + ", the document's " + want, got.equals(want), true);
    }

    /** "Ahead of the calls .. the interface says: .."; sign and end, ahead of which it says nothing, come first. */
    private static void theHeadings(List<String> lines, String doc) {
        Matcher m = Pattern.compile("(?m)^Ahead of the calls (.*) the interface says: (---- .*)\\.$").matcher(doc);
        int headings = 0;
        while (m.find()) {
            headings++;
            int start = lines.indexOf("    // " + m.group(2));
            Check.due("the heading " + m.group(2) + " is there", start >= 0, true);
            StringBuilder calls = new StringBuilder();
            for (int i = start + 1; i < lines.size() && !lines.get(i).startsWith("    // ----"); i++) {
                if (lines.get(i).startsWith("    public ")) {
                    calls.append(calls.length() > 0 ? ", " : "").append(
                        lines.get(i).replaceAll(".* (\\w+)\\(.*", "`$1`"));
                }
            }
            Check.due("behind " + m.group(2) + ": " + calls, calls.toString().equals(m.group(1)), true);
        }
        Check.due("headings", headings, 5);
    }

    private static void theFace() {
        Set<String> want = new TreeSet<>(Arrays.asList(FACE));
        Set<String> got = new TreeSet<>();
        for (Method m : SubjectNet.class.getDeclaredMethods()) {
            if (Modifier.isPrivate(m.getModifiers())) {
                continue;
            }
            String text = m.toGenericString().replace("SubjectNet.", "").replace("public ", "");
            got.add(text);
        }
        Check.due("the face has all methods and no other: " + got, got.equals(want), true);
        for (Field f : SubjectNet.class.getDeclaredFields()) {
            boolean isNone = f.getName().equals("NONE");
            Check.due("field " + f.getName() + " is private but for NONE",
                Modifier.isPrivate(f.getModifiers()) != isNone, true);
            if (Modifier.isStatic(f.getModifiers())) {
                Check.due("static field " + f.getName() + " is final", Modifier.isFinal(f.getModifiers()), true);
            }
        }
        Constructor<?>[] all = SubjectNet.class.getDeclaredConstructors();
        Check.due("one public constructor", all.length == 1 && Modifier.isPublic(all[0].getModifiers())
            && all[0].getParameterCount() == 0, true);
        Check.due("final", Modifier.isFinal(SubjectNet.class.getModifiers()), true);
    }

    private static void theClassesInside() {
        Set<String> face = new TreeSet<>();
        for (String method : FACE) {
            face.add(method.replaceAll(".* (\\w+)\\(.*", "$1"));
        }
        List<Class<?>> all = new ArrayList<>(Arrays.asList(SubjectNet.class.getDeclaredClasses()));
        all.add(SubjectNet.class);
        Check.due("at most twelve classes", all.size() <= 12, true);
        for (Class<?> c : all) {
            int fields = 0;
            for (Field f : c.getDeclaredFields()) {
                fields += Modifier.isStatic(f.getModifiers()) ? 0 : 1;
            }
            Check.due(c + " has at most twenty fields", fields <= 20, true);
            Check.due(c + " is static or the face", c == SubjectNet.class || Modifier.isStatic(c.getModifiers()), true);
            for (Method m : c.getDeclaredMethods()) {
                Check.due(m + " takes at most seven", m.getParameterCount() <= 7, true);
                if (!Modifier.isPublic(m.getModifiers()) && face.contains(m.getName())) {
                    fault("a method with a name of the face: " + m);
                }
            }
        }
    }

    private static boolean isComment(String line) {
        String text = line.trim();
        return text.startsWith("*") || text.startsWith("/*") || text.startsWith("//");
    }

    private static void barredWords(List<String> lines) {
        for (int i = 0; i < lines.size(); i++) {
            String line = lines.get(i).trim();
            if (isComment(line)) {
                continue;
            }
            for (String barred : BARRED) {
                Matcher m = Pattern.compile(barred).matcher(line);
                if (m.find()) {
                    fault("line " + (i + 1) + " has " + barred + ": " + line);
                }
            }
        }
    }

    private static void shortMethods(List<String> lines) {
        for (int i = 0; i < lines.size(); i++) {
            Matcher m = HEAD.matcher(lines.get(i));
            if (!m.matches()) {
                continue;
            }
            int end = i;
            while (end < lines.size() && !lines.get(end).equals(m.group(1) + "}")) {
                end++;
            }
            Check.due("line " + (i + 1) + " begins a short method", end - i < 60, true);
        }
    }

    /** At most eight deep, and without recursion. Methods of one name in several classes count as one. */
    private static void depthOfCalls(List<String> lines) {
        Map<String, Set<String>> calls = new TreeMap<>();
        String method = null;
        for (String line : lines) {
            if (HEAD.matcher(line).matches()) {
                method = line.replaceAll("^ *([^(]* )?(\\w+)\\(.*", "$2");
                calls.computeIfAbsent(method, name -> new TreeSet<>());
            } else if (method != null && !isComment(line)) {
                Matcher m = Pattern.compile("\\b(\\w+)\\(").matcher(line);
                while (m.find()) {
                    calls.get(method).add(m.group(1));
                }
            }
        }
        for (String name : calls.keySet()) {
            int deep = depthOf(name, calls, 0);
            Check.due(name + " goes at most eight calls deep: " + deep, deep <= 8, true);
        }
    }

    private static int depthOf(String name, Map<String, Set<String>> calls, int open) {
        int deepest = 0;
        if (open > 20 || !calls.containsKey(name)) {
            return open > 20 ? 1 : 0;
        }
        for (String called : calls.get(name)) {
            deepest = Math.max(deepest, depthOf(called, calls, open + 1));
        }
        return deepest + 1;
    }
}
