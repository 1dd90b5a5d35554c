import java.io.IOException;
import java.nio.file.Files;
import java.nio.file.Path;
import java.util.List;
import java.util.regex.Matcher;
import java.util.regex.Pattern;

/** The rules of LANGUAGE.md that a look at the source's words can tell. */
public final class SourceTest {
    private static final List<String> BANNED = List.of("\\bthrows?\\b", "\\btry\\b", "\\bcatch\\b",
            "\\bfinally\\b", "\\bsynchronized\\b", "\\bassert\\b", "->", "::", "\\bvar\\b", "\\bprotected\\b",
            "\\bnative\\b", "\\bvolatile\\b", "\\bThread\\b", "\\bObject\\b", "\\bRandom\\b", "nanoTime",
            "currentTimeMillis", "\\bhashCode\\b", "Exact\\b", "\\bStringBuffer\\b", "\\bdo\\b", "\\bwhile\\b",
            "\\bstatic\\s*\\{", "\\bimport (?!java\\.util\\.Arrays;)", "\\.\\.\\.", "\\binstanceof\\b");

    public static void main(String[] args) throws IOException {
        Check check = new Check();
        Path path = Path.of(System.getProperty("lampyard.source", "src/main/java/LampYard.java"));
        String source = Files.readString(path);
        String code = source.replaceAll("(?s)/\\*.*?\\*/", " ").replaceAll("//[^\n]*", " ")
                .replaceAll("\"[^\"\n]*\"", "\"\"");
        for (String banned : BANNED) {
            check.no(banned + " in the source", Pattern.compile(banned).matcher(code).find());
        }
        check.yes("signs are plain", source.chars().allMatch(sign -> sign == '\n' || sign >= 32 && sign < 127));
        Matcher publics = Pattern.compile("\\bpublic\\b").matcher(code);
        int count = 0;
        while (publics.find()) {
            count++;
        }
        check.same("public members: the class, NONE, the constructor, 34 methods", count, 37);
        Matcher classes = Pattern.compile("\\bclass (\\w+)").matcher(code);
        count = 0;
        while (classes.find()) {
            count++;
        }
        check.yes("some twelve classes", count <= 12);
        methods(check, code);
        check.close("SourceTest");
    }

    /** Methods stay short and take seven parameters at most. */
    private static void methods(Check check, String code) {
        Matcher heads = Pattern.compile("\n( {4}| {8})(?:[\\w\\[\\]]+ )+(\\w+)\\(([^)]*)\\) \\{\n").matcher(code);
        int found = 0;
        while (heads.find()) {
            found++;
            int end = code.indexOf("\n" + heads.group(1) + "}\n", heads.end() - 1);
            long lines = code.substring(heads.start() + 1, end).chars().filter(sign -> sign == '\n').count();
            check.yes(heads.group(2) + " is short", lines <= 60);
            check.yes(heads.group(2) + " takes few parameters", heads.group(3).split(",").length <= 7);
        }
        check.yes("methods were found", found > 100);
    }
}
