import java.io.IOException;
import java.lang.reflect.Method;
import java.nio.file.Files;
import java.nio.file.Path;
import java.util.Set;
import java.util.TreeSet;
import java.util.regex.Matcher;
import java.util.regex.Pattern;

/** The rules of LANGUAGE.md that can be seen in the text of the class. */
public final class LanguageTest {
    private static final String[] FORBIDDEN = {
        "\\b(throw|throws|try|catch|synchronized|assert|package|protected|volatile|native|enum|record|var)\\b",
        "->", "::", "@", "\\bnew\\s+\\w+\\s*(<[^>]*>)?\\s*\\([^()]*\\)\\s*\\{", "Exact\\b", "\\b(equals|hashCode|toString)\\s*\\(",
        "\\b(System\\.(?!arraycopy)|Thread|Random|Runtime|Object|HashMap|Scanner)\\b",
        "\\bwhile\\s*\\(\\s*true\\s*\\)", "for\\s*\\(\\s*;\\s*;\\s*\\)", "static\\s*\\{",
    };

    public static void main(String[] args) throws IOException {
        String source = Files.readString(Path.of(System.getProperty("project.root", "."), "src/main/java/SpilledGroups.java"));
        String code = source.replaceAll("(?s)/\\*.*?\\*/", "").replaceAll("//[^\n]*", "").replaceAll("'.'", "0");
        for (String forbidden : FORBIDDEN) {
            Matcher found = Pattern.compile(forbidden).matcher(code);
            Check.that(!found.find(), "the class holds " + forbidden);
        }
        Check.that(source.chars().allMatch(c -> c >= 32 && c < 127 || c == '\n'), "a sign is not of the first 127");
        Matcher imports = Pattern.compile("import\\s+([\\w.]+)").matcher(code);
        while (imports.find()) {
            Check.that(imports.group(1).equals("java.util.Arrays"), "it imports " + imports.group(1));
        }
        Check.due("public members and class", count(code, "\\bpublic\\b"), 1 + 4 + 1 + 20);
        Check.that(count(code, "\\bclass\\b") <= 12, "more than twelve classes");
        Check.that(!Pattern.compile("private static (?!final)(?!\\w+ \\w+\\()").matcher(code).find(), "a static field is not final");
        methodLengths(code);
        handsOutNothing(code);
        privateNames(code);
        Check.end();
    }

    private static int count(String code, String what) {
        Matcher found = Pattern.compile(what).matcher(code);
        int count = 0;
        while (found.find()) {
            count++;
        }
        return count;
    }

    /** All objects of the class are made in constructors: none may be given the object that is made, or a field of it. */
    private static void handsOutNothing(String code) {
        Matcher made = Pattern.compile("\\bnew\\s+[A-Z]\\w*\\(([^()]*)\\)").matcher(code);
        int objects = 0;
        while (made.find()) {
            objects++;
            Check.that(!Pattern.compile("\\b[a-z]").matcher(made.group(1)).find(), made.group() + " is given something of its maker");
        }
        Check.that(objects > 10, "only " + objects + " objects were seen");
        Check.due("this, handed out", count(code, "\\bthis\\s*[,)]|(=|return)\\s*this\\s*;"), 0);
    }

    /** No private method, of the classes inside either, bears the name of a public one. */
    private static void privateNames(String code) {
        Set<String> faceNames = new TreeSet<>();
        for (Method method : SpilledGroups.class.getMethods()) {
            faceNames.add(method.getName());
        }
        Matcher method = Pattern.compile("\\bprivate (?:static )?[\\w\\[\\]]+ (\\w+)\\(").matcher(code);
        int seen = 0;
        while (method.find()) {
            seen++;
            Check.that(!faceNames.contains(method.group(1)), "a private method is named " + method.group(1));
        }
        Check.that(seen > 20, "only " + seen + " private methods were seen");
    }

    private static void methodLengths(String code) {
        Matcher head = Pattern.compile("(?m)^( {4}| {8})(?! |if|for|while|switch|return)[\\w\\[\\] ]+\\(([^)]*)\\) \\{$").matcher(code);
        int methods = 0;
        while (head.find()) {
            methods++;
            int end = code.indexOf("\n" + head.group(1) + "}", head.end());
            long lines = code.substring(head.start(), end).lines().count();
            Check.that(lines <= 60, head.group() + " has " + lines + " lines");
            Check.that(head.group(2).split(",").length <= 7, head.group() + " has too many parameters");
        }
        Check.that(methods > 40, "only " + methods + " methods were seen");
    }
}
