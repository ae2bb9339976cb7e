import java.io.IOException;
import java.lang.reflect.Constructor;
import java.lang.reflect.Field;
import java.lang.reflect.Method;
import java.lang.reflect.Modifier;
import java.nio.file.Files;
import java.nio.file.Path;
import java.util.ArrayList;
import java.util.Arrays;
import java.util.List;
import java.util.Set;
import java.util.TreeSet;
import java.util.regex.Matcher;
import java.util.regex.Pattern;

/** The rules of LANGUAGE.md, as far as they can be seen from the outside; its argument is the source's path. */
public final class Language {
    private static final String[] FACE = {
        "int sign(int)", "boolean end(int)", "int term()", "int label(int)", "int named()", "int labels(int)",
        "int links(int,int)", "int unlinks(int,int)", "int net()",
        "int place(int) throws java.util.NoSuchElementException",
        "int at(int) throws java.util.NoSuchElementException",
        "int would(int,int)", "int kin(int,int)", "int way(int,int)", "int ways(int,int)", "int between(int,int)",
        "int meets(int,int)", "int steps(int,int)", "int depth(int)", "int tops()", "int needless()",
        "int chains()", "int apart(int)", "int posts(int,int)", "int unposts(int,int)", "int search()",
        "int posted(int)", "int goes(int,int)", "int merges(int,int)", "int thins()", "int day()", "int undo()",
        "int years(int,int)", "boolean keep(int)", "boolean again(int)", "int count(int)",
        "long row(int) throws java.util.NoSuchElementException"};

    private static final String[] BARRED = {"->", "::", "\\bsynchronized\\b", "\\bassert\\b", "\\bfinally\\b",
        "\\btry\\b", "\\bcatch\\b", "\\bprotected\\b", "Exact\\b", "\\bSystem\\.(?!arraycopy)", "\\bwhile \\(true\\)",
        "\\bfor \\(;;\\)", "\\bequals\\b", "\\bhashCode\\b", "\\btoString\\b", "\" \\+", "\\+ \"", "\\bdouble\\b",
        "\\bfloat\\b", "\\bRandom\\b", "\\bThread\\b", "^import (?!java\\.util\\.NoSuchElementException;)",
        "^package\\b", "\\bstatic \\{", "throw new (?!NoSuchElementException\\(\")"};

    private Language() {
    }

    public static void main(String[] args) throws IOException {
        List<String> lines = Files.readAllLines(Path.of(args[0]));
        theFace();
        theClassesInside();
        barredWords(lines);
        shortMethods(lines);
        Check.finish("Language");
    }

    private static void fault(String what) {
        Check.due("rule broken: " + what, 1, 0);
    }

    private static void theFace() {
        Set<String> want = new TreeSet<>(Arrays.asList(FACE));
        Set<String> got = new TreeSet<>();
        for (Method m : SubjectNet.class.getDeclaredMethods()) {
            if (Modifier.isPrivate(m.getModifiers())) {
                continue;
            }
            String text = m.toGenericString().replace("SubjectNet.", "").replace("public ", "");
            got.add(text);
        }
        Check.due("the face has all methods and no other: " + got, got.equals(want), true);
        for (Field f : SubjectNet.class.getDeclaredFields()) {
            boolean isNone = f.getName().equals("NONE");
            Check.due("field " + f.getName() + " is private but for NONE",
                Modifier.isPrivate(f.getModifiers()) != isNone, true);
            if (Modifier.isStatic(f.getModifiers())) {
                Check.due("static field " + f.getName() + " is final", Modifier.isFinal(f.getModifiers()), true);
            }
        }
        Constructor<?>[] all = SubjectNet.class.getDeclaredConstructors();
        Check.due("one public constructor", all.length == 1 && Modifier.isPublic(all[0].getModifiers())
            && all[0].getParameterCount() == 0, true);
        Check.due("final", Modifier.isFinal(SubjectNet.class.getModifiers()), true);
    }

    private static void theClassesInside() {
        Set<String> face = new TreeSet<>();
        for (String method : FACE) {
            face.add(method.replaceAll(".* (\\w+)\\(.*", "$1"));
        }
        List<Class<?>> all = new ArrayList<>(Arrays.asList(SubjectNet.class.getDeclaredClasses()));
        all.add(SubjectNet.class);
        Check.due("at most twelve classes", all.size() <= 12, true);
        for (Class<?> c : all) {
            int fields = 0;
            for (Field f : c.getDeclaredFields()) {
                fields += Modifier.isStatic(f.getModifiers()) ? 0 : 1;
            }
            Check.due(c + " has at most twenty fields", fields <= 20, true);
            Check.due(c + " is static or the face", c == SubjectNet.class || Modifier.isStatic(c.getModifiers()), true);
            for (Method m : c.getDeclaredMethods()) {
                Check.due(m + " takes at most seven", m.getParameterCount() <= 7, true);
                if (!Modifier.isPublic(m.getModifiers()) && face.contains(m.getName())) {
                    fault("a method with a name of the face: " + m);
                }
            }
        }
    }

    private static void barredWords(List<String> lines) {
        for (int i = 0; i < lines.size(); i++) {
            String line = lines.get(i).trim();
            if (line.startsWith("*") || line.startsWith("/*") || line.startsWith("//")) {
                continue;
            }
            for (String barred : BARRED) {
                Matcher m = Pattern.compile(barred).matcher(line);
                if (m.find()) {
                    fault("line " + (i + 1) + " has " + barred + ": " + line);
                }
            }
        }
    }

    private static void shortMethods(List<String> lines) {
        Pattern head = Pattern.compile("^( {4}| {8})[a-zA-Z].*\\) ?(throws \\w+ )?\\{$");
        for (int i = 0; i < lines.size(); i++) {
            Matcher m = head.matcher(lines.get(i));
            if (!m.matches()) {
                continue;
            }
            int end = i;
            while (end < lines.size() && !lines.get(end).equals(m.group(1) + "}")) {
                end++;
            }
            Check.due("line " + (i + 1) + " begins a short method", end - i < 60, true);
        }
    }
}
