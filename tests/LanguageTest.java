import java.nio.charset.StandardCharsets;
import java.nio.file.Files;
import java.nio.file.Path;
import java.util.HashSet;
import java.util.List;
import java.util.Set;
import java.util.regex.Matcher;
import java.util.regex.Pattern;

/** The rules of LANGUAGE.md that can be seen in the lines of the class. */
public final class LanguageTest {
    private static final Set<String> FACE = Set.of("feed", "end", "assemble", "fault", "take", "extend", "cut", "spoil", "size", "byteAt", "check", "object",
        "link", "linked", "where", "load", "place", "step", "run", "back", "set", "get", "peek", "input", "halt", "state", "output", "rights", "tell", "letter");
    private static final Pattern METHOD = Pattern.compile("^( {4}| {8})((?:public |private |static |final )*)(?:[\\w\\[\\]<>]+ )?(\\w+)\\(([^)]*)\\)( throws [^{]*)? \\{$");
    private static final Pattern CLASS = Pattern.compile("^(?: {4}private static|public) final class (\\w+) \\{$");
    private static final Pattern FIELD = Pattern.compile("^ {4,8}((?:public |private |static |final )*)[\\w\\[\\]<>]+ (\\w+)( = .*)?;$");

    public static void main(String[] args) throws Exception {
        byte[] bytes = Files.readAllBytes(Path.of("src/main/java/ChainHouse.java"));
        for (byte b : bytes) {
            Check.due("a sign of the source is 1 to 127", b > 0, true);
        }
        String source = new String(bytes, StandardCharsets.US_ASCII);
        List<String> lines = List.of(source.split("\n"));
        words(source);
        classes(lines);
        methods(lines);
        fields(lines);
        Check.end();
    }

    /** The source without comments and what stands in quotes. */
    private static String bare(String source) {
        return source.replaceAll("(?s)/\\*.*?\\*/", " ").replaceAll("//[^\n]*", " ").replaceAll("'(\\\\.|[^'\\\\])'", "0").replaceAll("\"(\\\\.|[^\"\\\\])*\"", "\"\"");
    }

    private static void words(String source) {
        String bare = bare(source);
        for (String no : new String[] {"\\btry\\b", "\\bcatch\\b", "\\bfinally\\b", "\\bsynchronized\\b", "\\bassert\\b", "\\binstanceof\\b", "->", "::", "\\bvar\\b", "\\brecord\\b",
            "\\bstatic \\{", "\\bSystem\\b", "\\bRandom\\b", "\\bThread\\b", "\\bhashCode\\b", "\\btoString\\b", "\\bequals\\b", "\\bprotected\\b", "\\bfloat\\b", "\\bdouble\\b",
            "Exact\\b", "\"\" \\+", "\\+ \"\"", "\\byield\\b", "\\bString\\[", "\\binterface\\b", "\\bpackage\\b", "\\bgoto\\b"}) {
            Check.due("the source has " + no, Pattern.compile(no).matcher(bare).find(), false);
        }
        Matcher imports = Pattern.compile("(?m)^import (.*);$").matcher(bare);
        while (imports.find()) {
            Check.due("import", imports.group(1), "java.util.NoSuchElementException");
        }
        Matcher thrown = Pattern.compile("throw new (\\w+)\\(").matcher(bare);
        while (thrown.find()) {
            boolean may = Set.of("IndexOutOfBoundsException", "IllegalArgumentException", "IllegalStateException", "NoSuchElementException").contains(thrown.group(1));
            Check.due("throw new " + thrown.group(1), may, true);
        }
        Check.due("throws are in the face alone", bare.lastIndexOf("throw new") < bare.indexOf("class Bytes"), true);
        Matcher wide = Pattern.compile("static (?!final)(?:[\\w\\[\\]]+) \\w+( =|;)").matcher(bare);
        Check.due("a static field is not final", wide.find(), false);
    }

    private static void classes(List<String> lines) {
        int n = 0;
        for (String line : lines) {
            n += CLASS.matcher(line).matches() ? 1 : 0;
            Check.due("a class is as it should be: " + line, line.matches(".*\\bclass \\w+.*\\{") && !CLASS.matcher(line).matches(), false);
        }
        Check.due("some twelve classes", n <= 13, true);
    }

    private static void methods(List<String> lines) {
        int begin = -1;
        String name = "";
        String indent = "";
        Set<String> seen = new HashSet<>();
        for (int k = 0; k < lines.size(); k++) {
            Matcher m = METHOD.matcher(lines.get(k));
            if (m.matches()) {
                begin = k;
                indent = m.group(1);
                name = m.group(3);
                int parameters = m.group(4).isEmpty() ? 0 : m.group(4).split(",").length;
                Check.due("parameters of " + name, parameters <= 7, true);
                boolean open = m.group(2).contains("public");
                Check.due(name + " is public", open, indent.length() == 4 && (FACE.contains(name) || name.equals("ChainHouse")));
                if (open) {
                    seen.add(name);
                } else {
                    Check.due(name + " bears a name of the face", FACE.contains(name), false);
                }
            }
            if (begin >= 0 && lines.get(k).equals(indent + "}")) {
                Check.due("lines of " + name, k - begin + 1 <= 60, true);
                begin = -1;
            }
        }
        Check.due("the face is whole", seen.containsAll(FACE), true);
    }

    private static void fields(List<String> lines) {
        int n = 0;
        String indent = "    ";
        for (String line : lines) {
            Matcher c = CLASS.matcher(line);
            if (c.matches()) {
                n = 0;
                indent = line.startsWith("public") ? "    " : "        ";
            }
            Matcher m = FIELD.matcher(line);
            boolean field = m.matches() && line.startsWith(indent) && !line.startsWith(indent + " ") && !line.trim().startsWith("return");
            if (field && !m.group(1).contains("static")) {
                n++;
                Check.due("some twenty fields", n <= 20, true);
            }
            if (field && m.group(1).contains("public")) {
                Check.due("public field", m.group(2), "NONE");
            }
        }
    }
}
