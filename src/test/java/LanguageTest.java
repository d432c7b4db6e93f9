import java.io.IOException;
import java.nio.charset.StandardCharsets;
import java.nio.file.Files;
import java.nio.file.Paths;
import java.util.Arrays;
import java.util.List;
import java.util.TreeMap;
import java.util.TreeSet;
import java.util.regex.Matcher;
import java.util.regex.Pattern;

/** What of ../shared/LANGUAGE.md can be seen in the text of the class. Its argument is that file's path. */
final class LanguageTest {
    private static final List<String> LIBRARY = Arrays.asList("Math.min", "Math.max", "Math.abs", "Integer.compare",
        "System.arraycopy", "Long.MIN_VALUE");
    private static final List<String> OWN = Arrays.asList("Filter.called", "Filter.OR", "Value.bitsOf", "Value.isInt", "ALL.length");

    public static void main(String[] args) throws IOException {
        String path = args.length > 0 ? args[0] : "src/main/java/TemplatePress.java";
        String source = new String(Files.readAllBytes(Paths.get(path)), StandardCharsets.ISO_8859_1);
        int odd = 0;
        for (int i = 0; i < source.length(); i++) if (source.charAt(i) > 126) odd++;
        Check.due("signs that are not ASCII", odd, 0);
        String code = source.replaceAll("(?s)/\\*.*?\\*/", "").replaceAll("//[^\n]*", "")
            .replaceAll("'(\\\\.|[^'\\\\])'", "0");
        Check.due("texts joined by +", found(code, "\"\\s*\\+|\\+\\s*\""), "[]");
        code = code.replaceAll("\"(\\\\.|[^\"\\\\])*\"", "\"\"");
        Check.due("words that are left out", found(code, "\\b(import|package|throw|try|catch|finally|synchronized|assert|"
            + "record|volatile|transient|native|instanceof|var|yield|protected)\\b|->|::|@|\\?\\s*>"), "[]");
        Check.due("static fields that are not final", found(code, "\\bstatic (?!final\\b)[\\w\\[\\]]+ \\w+\\s*[=;]"), "[]");
        Check.due("static initialisers", found(code, "\\bstatic\\s*\\{"), "[]");
        Check.due("static floats", found(code, "\\bstatic final (float|double)"), "[]");
        Check.due("the library", library(code), "[]");
        sizes(code);
        Check.end();
    }

    private static String found(String code, String pattern) {
        TreeSet<String> all = new TreeSet<>();
        Matcher m = Pattern.compile(pattern).matcher(code);
        while (m.find()) all.add(m.group());
        return all.toString();
    }

    /** Members of classes with a great first letter that are neither of the rules nor constants of the class. */
    private static String library(String code) {
        TreeSet<String> all = new TreeSet<>();
        Matcher m = Pattern.compile("\\b([A-Z]\\w*\\.\\w+)\\b").matcher(code);
        while (m.find()) {
            boolean isConstant = m.group(1).matches("(Value|Piece|Expression|Row|Filter)\\.[A-Z]+");
            if (!isConstant && !LIBRARY.contains(m.group(1)) && !OWN.contains(m.group(1))) all.add(m.group(1));
        }
        return all.toString();
    }

    private static void sizes(String code) {
        TreeMap<String, Integer> fields = new TreeMap<>();
        int classes = 0;
        int longest = 0;
        int most = 0;
        int start = 0;
        String current = "";
        String[] lines = code.split("\n");
        for (int i = 0; i < lines.length; i++) {
            Matcher type = Pattern.compile("\\b(class|enum|interface) (\\w+)").matcher(lines[i]);
            if (type.find()) {
                classes++;
                current = type.group(2);
            }
            if (lines[i].matches("\\s+(private )?(final )?[\\w\\[\\]]+ \\w+( = [^()]*| = new [^;]*)?;")
                && !lines[i].contains("return") && lines[i].indexOf(lines[i].trim()) == (current.equals("TemplatePress") ? 4 : 8)) {
                fields.merge(current, 1, Integer::sum);
            }
            Matcher method = Pattern.compile("^(    |        )(?=\\w)(?!for|if|switch|while|else)[\\w\\[\\] ]+\\((.*)\\) \\{$").matcher(lines[i]);
            if (method.find()) {
                start = i;
                most = Math.max(most, method.group(2).isEmpty() ? 0 : method.group(2).split(",").length);
            }
            if (lines[i].equals("        }") || lines[i].equals("    }")) longest = Math.max(longest, i - start);
        }
        int widest = 0;
        for (int n : fields.values()) widest = Math.max(widest, n);
        System.out.println(classes + " classes, fields " + fields + ", parameters " + most + ", lines " + longest);
        Check.due("parameters", most <= 7 ? 0 : most, 0);
        Check.due("lines of a method", longest <= 60 ? 0 : longest, 0);
        Check.due("classes", classes <= 13 ? 0 : classes, 0);
        Check.due("fields of a class", widest <= 20 ? 0 : widest, 0);
    }
}
