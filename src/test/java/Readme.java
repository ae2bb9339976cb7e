import java.io.IOException;
import java.lang.reflect.InvocationTargetException;
import java.lang.reflect.Method;
import java.lang.reflect.Modifier;
import java.nio.file.Files;
import java.nio.file.Path;
import java.util.ArrayList;
import java.util.List;
import java.util.regex.Matcher;
import java.util.regex.Pattern;

/** The examples of README.md: each call answers, and tells, what stands behind it; arguments: the source. */
public final class Readme {
    private static final Pattern CALL = Pattern.compile(
        "net\\.(\\w+)\\(([-\\d, ]*)\\); +// (true|false|-?\\d+|NoSuchElementException)(?:; row: ([-\\d ]+))?(?:: .*)?");
    private static final Pattern TELL = Pattern.compile("tell\\(net, \"(.*)\"\\);");

    private static SubjectNet net;

    private Readme() {
    }

    public static void main(String[] args) throws IOException, IllegalAccessException {
        Path root = Path.of(args[0]).toAbsolutePath().getParent().getParent().getParent().getParent();
        List<String> readme = Files.readAllLines(root.resolve("README.md"));
        List<List<String>> blocks = blocks(readme);
        Check.due("README.md has examples", blocks.size() > 1, true);
        tellIsAsHere(blocks.get(0), Files.readAllLines(root.resolve("src/test/java/Readme.java")));
        for (List<String> block : blocks.subList(1, blocks.size())) {
            for (String line : block) {
                follow(line);
            }
        }
        everyCallIsShown(String.join("\n", readme));
        Check.finish("Readme");
    }

    private static List<List<String>> blocks(List<String> lines) {
        List<List<String>> blocks = new ArrayList<>();
        boolean inside = false;
        for (String line : lines) {
            if (line.startsWith("```")) {
                inside = line.equals("```java");
                if (inside) {
                    blocks.add(new ArrayList<>());
                }
            } else if (inside) {
                blocks.get(blocks.size() - 1).add(line);
            }
        }
        return blocks;
    }

    /** The page's tell() is the one that is used here. */
    private static void tellIsAsHere(List<String> block, List<String> source) {
        StringBuilder shown = new StringBuilder();
        for (String line : block) {
            shown.append("    ").append(line).append('\n');
        }
        Check.due("tell() of README.md is the one that is tested",
            String.join("\n", source).contains("    private" + shown.substring(3)), true);
    }

    private static void follow(String line) throws IllegalAccessException {
        Matcher told = TELL.matcher(line);
        Matcher call = CALL.matcher(line);
        if (line.equals("SubjectNet net = new SubjectNet();")) {
            net = new SubjectNet();
        } else if (told.matches()) {
            tell(net, told.group(1));
            Check.due(line + " is told whole", net.count(7), told.group(1).length());
        } else if (call.matches()) {
            same(line + " answered " + answer(call.group(1), call.group(2)), call.group(3));
            if (call.group(4) != null) {
                String[] row = call.group(4).trim().split(" ");
                long[] want = new long[row.length];
                for (int i = 0; i < row.length; i++) {
                    want[i] = Long.parseLong(row[i]);
                }
                Check.dueRow(line, net, want);
            }
        } else {
            Check.due("README.md, a line that can't be followed: " + line, 1, 0);
        }
    }

    private static void same(String what, String want) {
        Check.due(what, what.endsWith(" answered " + want), true);
    }

    private static String answer(String name, String numbers) throws IllegalAccessException {
        String[] parts = numbers.isEmpty() ? new String[0] : numbers.split(", ");
        Object[] arguments = new Object[parts.length];
        for (int i = 0; i < parts.length; i++) {
            arguments[i] = Integer.parseInt(parts[i]);
        }
        for (Method method : SubjectNet.class.getDeclaredMethods()) {
            if (method.getName().equals(name) && method.getParameterCount() == parts.length) {
                try {
                    return String.valueOf(method.invoke(net, arguments));
                } catch (InvocationTargetException e) {
                    return e.getCause().getClass().getSimpleName();
                }
            }
        }
        return "nothing: there is no such call";
    }

    private static void everyCallIsShown(String readme) {
        for (Method method : SubjectNet.class.getDeclaredMethods()) {
            if (Modifier.isPublic(method.getModifiers())) {
                Check.due("README.md shows " + method.getName() + "()",
                    readme.contains("net." + method.getName() + "("), true);
            }
        }
    }

    private static void tell(SubjectNet net, String text) {
        for (int i = 0; i < text.length(); i += 4) {
            int v = 0;
            for (int k = i; k < i + 4; k++) {
                v = v << 8 | (k < text.length() ? text.charAt(k) : 0);
            }
            net.sign(v);
        }
        net.end(text.length());
    }
}
