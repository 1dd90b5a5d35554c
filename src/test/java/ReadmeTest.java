import java.io.IOException;
import java.lang.reflect.Method;
import java.lang.reflect.Modifier;
import java.nio.file.Files;
import java.nio.file.Path;
import java.util.ArrayList;
import java.util.List;

/** What README.md says of the class: its example is this file's own, and its table tells of every call. */
public final class ReadmeTest {
    private final Check check = new Check();
    private final List<Long> answers = new ArrayList<>();

    public static void main(String[] args) throws IOException {
        ReadmeTest test = new ReadmeTest();
        test.example();
        test.check.same("the example answers as README.md says", test.answers.toString(), test.told());
        test.sameLines();
        test.everyCall();
        test.check.close("ReadmeTest");
    }

    private void example() {
        // README from here
        LampYard yard = new LampYard();
        String text = "role other men 2 holds 1; role counter men 1 holds 0;\n"
                + "rule other when holds and not lamps set 1 hold 0;\n"
                + "rule counter when lamps and holds + 2 = men set 0 hold holds + 1 say;\n"
                + "rule counter when lamps set 0 hold holds + 1;\n";
        for (int from = 0; from < text.length(); from += 20) {
            yard.feed(four(text, from), four(text, from + 4), four(text, from + 8),
                    four(text, from + 12), four(text, from + 16));
        }
        yard.end(text.length());   // what the last feed put behind the text is cut off
        show(yard.plan());         // 3: so many men; NONE: fault(0) says which fault, fault(1) where
        show(yard.lead(0));        // 0: the first man is led, and puts the lamp on
        show(yard.about(4));       // 1: the lamps now
        show(yard.lead(2));        // 0: the last man puts it off, and holds 1
        show(yard.lead(1));        // 0
        show(yard.lead(2));        // 1: he says that all have been there, and it is so
        show(yard.right());        // 1: nobody is ever wrong, in whatever order they are led
        show(yard.soonest());      // 4: days
        show(yard.ends());         // 1: no order goes on for ever, as long as each is led again
        show(yard.bears(0));       // 0: if one forgets, somebody can be wrong
        show(yard.said(0, 4, 0, 0));  // 2: by chance it is said within four days in 2 ..
        show(yard.said(0, 4, 0, 1));  // 81: .. of 81 orders
        // README to here
    }

    private void show(long answer) {
        answers.add(answer);
    }

    /** Four signs of a text, the first the highest; 0 behind its end. */
    private static int four(String text, int from) {
        int number = 0;
        for (int i = from; i < from + 4; i++) {
            number = number << 8 | (i < text.length() ? text.charAt(i) : 0);
        }
        return number;
    }

    /** The number behind each show(..) of README.md. */
    private String told() throws IOException {
        List<Long> told = new ArrayList<>();
        for (String line : readme()) {
            if (line.startsWith("show(")) {
                told.add(Long.parseLong(line.replaceAll(".*// (-?\\d+).*", "$1")));
            }
        }
        return told.toString();
    }

    private void sameLines() throws IOException {
        List<String> lines = Files.readAllLines(Path.of("src/test/java/ReadmeTest.java"));
        int from = lines.indexOf("        // README from here") + 1;
        int to = lines.indexOf("        // README to here");
        StringBuilder wanted = new StringBuilder("```java\n");
        for (String line : lines.subList(from, to)) {
            wanted.append(line.substring(8)).append('\n');
        }
        wanted.append("```\n");
        check.yes("the example is README.md's", String.join("\n", readme()).contains(wanted));
    }

    private void everyCall() throws IOException {
        String readme = String.join("\n", readme());
        for (Method method : LampYard.class.getDeclaredMethods()) {
            if (Modifier.isPublic(method.getModifiers())) {
                String row = "\n| `" + method.getName() + "(";
                check.yes("README.md tells of " + method.getName(), readme.contains(row));
            }
        }
        for (String file : new java.io.File("src/test/java").list()) {
            if (file.endsWith("Test.java")) {
                String row = "\n| " + file.replace(".java", "") + " |";
                check.yes("README.md tells of " + file, readme.contains(row));
            }
        }
    }

    private static List<String> readme() throws IOException {
        return Files.readAllLines(Path.of("README.md"));
    }
}
