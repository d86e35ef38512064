import java.io.IOException;
import java.nio.file.Files;
import java.nio.file.Path;
import java.util.Arrays;
import java.util.HashSet;
import java.util.List;
import java.util.Set;
import java.util.TreeSet;
import java.util.regex.Matcher;
import java.util.regex.Pattern;

/** Those rules of LANGUAGE.md that can be read off the text of the program, and its face. */
public final class LanguageTest {
    private static final Due due = new Due("LanguageTest");
    private static final List<String> FACE = List.of(
        "thing", "thingIs", "become", "as", "weigh", "at", "leave", "stow", "zip", "feed", "text", "untell", "law",
        "seconds", "best", "takes", "walks", "loose", "seed", "then", "settles", "pack", "out", "odds", "fits", "voice",
        "body", "sheet", "put", "move", "weights", "judge", "image", "restore", "tell", "check", "count", "told");
    private static final Set<String> LIBRARY = new HashSet<>(List.of(
        "indexOf", "length", "charAt", "arraycopy", "max", "min", "bitCount", "abs"));
    private static final Set<String> WORDS = new HashSet<>(List.of("if", "for", "while", "switch", "return"));

    public static void main(String[] args) throws IOException {
        String program = plain(Files.readString(Path.of(args[0])));
        words(program);
        calls(program);
        methods(program);
        face();
        due.end();
    }

    /** Without comments, and without what stands in strings and characters. */
    private static String plain(String text) {
        for (char c : text.toCharArray()) {
            if (c > 126) {
                due.fault("a sign above 126 stands in the program");
            }
        }
        return text.replaceAll("(?s)/\\*.*?\\*/", "").replaceAll("//[^\n]*", "")
            .replaceAll("\"[^\"]*\"", "\"\"").replaceAll("'[^']*'", "' '");
    }

    private static void words(String program) {
        String[] none = {
            "\\bthrows?\\b", "\\btry\\b", "\\bcatch\\b", "\\bsynchronized\\b", "\\bassert\\b", "\\bimport\\b",
            "\\bpackage\\b", "->", "::", "\\bdouble\\b", "\\bfloat\\b", "\\bprotected\\b", "\\bstatic\\s*\\{",
            "\\bSystem\\.(?!arraycopy)", "\\b(?:Integer|Long|Math)\\.[^a-z]", "\\bequals\\b",
            "\\bhashCode\\b", "\\btoString\\b", "Exact\\b"
        };
        for (String word : none) {
            due.is("how often " + word, Pattern.compile(word).matcher(program).results().count(), 0);
        }
    }

    private static void calls(String program) {
        Set<String> declared = new TreeSet<>();
        Matcher own = Pattern.compile("\\b(?:int|boolean|void|String|Row|Thing)\\s+(\\w+)\\s*\\(").matcher(program);
        while (own.find()) {
            declared.add(own.group(1));
        }
        Matcher called = Pattern.compile("\\b([a-z]\\w*)\\s*\\(").matcher(program);
        while (called.find()) {
            String name = called.group(1);
            if (!declared.contains(name) && !LIBRARY.contains(name) && !WORDS.contains(name)) {
                due.fault("it calls " + name);
            }
        }
    }

    private static void methods(String program) {
        Pattern head = Pattern.compile("^( {4}| {8})(?:[\\w\\[\\]]+ )*(\\w+)\\(([^()]*)\\) \\{$");
        String[] lines = program.split("\n");
        for (int i = 0; i < lines.length; i++) {
            Matcher method = head.matcher(lines[i]);
            if (!method.find() || WORDS.contains(method.group(2))) {
                continue;
            }
            int end = i;
            while (end < lines.length && !lines[end].equals(method.group(1) + "}")) {
                end++;
            }
            String name = method.group(2);
            due.is(name + " is of some sixty lines", end - i <= 60 ? 1 : 0, 1);
            due.is(name + " takes at most seven", method.group(3).split(",").length <= 7 ? 1 : 0, 1);
            boolean inFace = lines[i].startsWith("    public");
            due.is(name + " bears no public name", inFace || !FACE.contains(name) ? 1 : 0, 1);
        }
    }

    private static void face() {
        long methods = Arrays.stream(BagBottom.class.getDeclaredMethods())
            .filter(m -> java.lang.reflect.Modifier.isPublic(m.getModifiers()))
            .filter(m -> FACE.contains(m.getName()) && m.getReturnType() == int.class).count();
        due.is("public methods of the document", methods, FACE.size());
        long others = Arrays.stream(BagBottom.class.getDeclaredMethods())
            .filter(m -> !java.lang.reflect.Modifier.isPrivate(m.getModifiers()) && !m.isSynthetic())
            .count();
        due.is("methods that aren't private", others, FACE.size());
        long fields = Arrays.stream(BagBottom.class.getDeclaredFields())
            .filter(f -> !java.lang.reflect.Modifier.isPrivate(f.getModifiers()) && !f.isSynthetic()).count();
        due.is("fields that aren't private", fields, 0);
        due.is("classes inside", BagBottom.class.getDeclaredClasses().length <= 12 ? 1 : 0, 1);
        due.is("it is final", java.lang.reflect.Modifier.isFinal(BagBottom.class.getModifiers()) ? 1 : 0, 1);
    }
}
