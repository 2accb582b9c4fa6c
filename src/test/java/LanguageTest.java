import java.io.IOException;
import java.nio.file.Files;
import java.nio.file.Path;
import java.util.ArrayList;
import java.util.HashSet;
import java.util.List;
import java.util.Map;
import java.util.Set;
import java.util.TreeMap;
import java.util.TreeSet;
import java.util.regex.Matcher;
import java.util.regex.Pattern;

/** The rules of ../shared/LANGUAGE.md that a look at the text can tell; run at the root of the project. */
public final class LanguageTest {
    private static final Pattern METHOD =
        Pattern.compile("(?m)^( {4}| {8})((?:public |private |static |final )*)([A-Za-z\\[\\]]+) (\\w+)\\(([^)]*)\\) \\{$");
    private static final Pattern CALL = Pattern.compile("\\b(\\w+)\\(");

    private final String code;
    private final Map<String, Set<String>> calls = new TreeMap<>();

    private LanguageTest(String text) {
        code = text.replaceAll("(?s)/\\*.*?\\*/", "").replaceAll("//[^\n]*", "");
    }

    public static void main(String[] args) throws IOException {
        LanguageTest test = new LanguageTest(Files.readString(Path.of("src/main/java/CarryFair.java")));
        test.wordsThatMayNotStand();
        test.face(Files.readString(Path.of("../shared/DOC.md")));
        test.methods();
        test.depth();
        test.classes();
        Due.end();
    }

    private void wordsThatMayNotStand() {
        String[] banned = {"\\bimport\\b", "\\bpackage\\b", "\\bthrows?\\b", "\\btry\\b", "\\bcatch\\b", "\\bsynchronized\\b",
            "\\bassert\\b", "\\bprotected\\b", "\\bthis\\b", "->", "::", "@", "\\bExact\\b", "Exact\\(", "\\bvar\\b",
            "\\bequals\\b", "\\bhashCode\\b", "\\btoString\\b", "\\bnew \\w+\\(\\) ?\\{", "\" *\\+", "\\+ *\"", "while \\(true\\)",
            "\\bSystem\\.(?!arraycopy)", "\\bMath\\.(?!min|max|abs|floor)", "\\bdouble\\b", "\\bfloat\\b", "\\bObject\\b"};
        for (String word : banned) {
            Matcher found = Pattern.compile(word).matcher(code);
            Due.same("may not stand: " + word, found.find() ? found.group() : "", "");
        }
    }

    private void face(String document) {
        Set<String> due = new TreeSet<>();
        Matcher told = Pattern.compile("(?m)^    (public [^;{]*);").matcher(document);
        while (told.find()) {
            due.add(told.group(1));
        }
        Set<String> stands = new TreeSet<>();
        Matcher found = Pattern.compile("(?m)^ *(public [^{]*) \\{").matcher(code);
        while (found.find()) {
            if (!found.group(1).contains("class")) {
                stands.add(found.group(1));
            }
        }
        Due.same("1 the face", stands.toString(), due.toString());
        Matcher member = Pattern.compile("(?m)^ {4}(?!private |public |\\}| |$)(.*)$").matcher(code);
        Due.same("1 all else is private", member.find() ? member.group() : "", "");
    }

    private void methods() {
        Set<String> open = new HashSet<>();
        List<String> others = new ArrayList<>();
        Matcher m = METHOD.matcher(code);
        while (m.find()) {
            String name = m.group(4);
            if (m.group(2).contains("public")) {
                open.add(name);
            } else {
                others.add(name);
            }
            int end = code.indexOf("\n" + m.group(1) + "}", m.start());
            String body = code.substring(m.end(), end);
            Due.is("11 lines of " + name + " above 60", body.split("\n").length > 60 ? 1 : 0, 0);
            Due.is("11 parameters of " + name + " above 7", m.group(5).split(",").length > 7 ? 1 : 0, 0);
            Set<String> called = calls.computeIfAbsent(name, n -> new TreeSet<>());
            Matcher c = CALL.matcher(body);
            while (c.find()) {
                called.add(c.group(1));
            }
        }
        Due.is("methods of the face", open.size(), 49);
        for (String name : others) {
            Due.is("1 a private method bears a public one's name: " + name, open.contains(name) ? 1 : 0, 0);
        }
    }

    /** By names alone: those of one name in several classes count as one, which calls not itself. */
    private void depth() {
        for (String name : calls.keySet()) {
            int deep = depthOf(name, 1);
            Due.is("11 " + name + " goes deeper than 8: " + deep, deep > 8 ? 1 : 0, 0);
        }
    }

    private int depthOf(String name, int level) {
        if (level > 20) {
            return level;
        }
        int most = level;
        for (String called : calls.getOrDefault(name, Set.of())) {
            if (!called.equals(name) && (calls.containsKey(called) || called.equals("min") || called.equals("max"))) {
                most = Math.max(most, depthOf(called, level + 1));
            }
        }
        return most;
    }

    private void classes() {
        Matcher m = Pattern.compile("\\bclass \\w+").matcher(code);
        int classes = 0;
        while (m.find()) {
            classes++;
        }
        Due.is("11 classes above 12", classes > 12 ? 1 : 0, 0);
        Matcher inner = Pattern.compile("(?m)^ {4}.*\\bclass \\w+.*$").matcher(code);
        while (inner.find()) {
            Due.is("2 " + inner.group(), inner.group().startsWith("    private static final class ") ? 1 : 0, 1);
        }
        Matcher field = Pattern.compile("(?m)^.*\\bstatic (?!final).*;$").matcher(code);
        Due.same("5 static fields are final", field.find() ? field.group() : "", "");
    }
}
