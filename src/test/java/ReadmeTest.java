import java.io.IOException;
import java.lang.reflect.Field;
import java.lang.reflect.Method;
import java.nio.file.DirectoryStream;
import java.nio.file.Files;
import java.nio.file.Path;
import java.util.ArrayList;
import java.util.Arrays;
import java.util.List;
import java.util.Set;
import java.util.TreeSet;
import java.util.regex.Matcher;
import java.util.regex.Pattern;

/** What README.md says of the use of the class and of its tests holds as it is written there. */
public final class ReadmeTest {
    private static final Pattern CALL = Pattern.compile("king\\.(\\w+)\\(([-0-9, ]*)\\);\\s*// (\\w+): .+");
    private static final Pattern TEXT = Pattern.compile("for \\(char letter : \"(.*)\"\\.toCharArray\\(\\)\\) \\{");
    private static final Set<String> FRAME =
        Set.of("AilingKing king = new AilingKing();", "king.feed(letter);", "}");

    public static void main(String[] args) throws ReflectiveOperationException, IOException {
        String page = Files.readString(Path.of("README.md"));
        example(between(page, "```java\n", "```"));
        limits();
        answers(page);
        calls(page);
        tests(page);
        parts(between(page, "## How it is built\n", "\n## "));
        Due.finish();
    }

    private static void holds(String what, boolean holds) {
        Due.due(what, holds ? 1 : 0, 1);
    }

    private static String between(String page, String start, String end) {
        int from = page.indexOf(start) + start.length();
        int to = page.indexOf(end, from);
        holds("the page has " + start, page.contains(start) && to > from);
        return page.substring(from, to);
    }

    /** Plays the example line by line; a line of another form fails, so that none is passed over. */
    private static void example(String code) throws ReflectiveOperationException {
        Due.sentence("the example");
        AilingKing king = new AilingKing();
        int answers = 0;
        for (String line : code.split("\n")) {
            Matcher call = CALL.matcher(line.strip());
            Matcher text = TEXT.matcher(line.strip());
            if (call.matches()) {
                Due.due(line, answer(king, call.group(1), call.group(2)), number(call.group(3)));
                answers++;
            } else if (text.matches()) {
                Due.feed(king, text.group(1));
            } else {
                holds("can be played: " + line, FRAME.contains(line.strip()));
            }
        }
        Due.due("answers", answers, 15);
    }

    private static int answer(AilingKing king, String name, String numbers) throws ReflectiveOperationException {
        List<Object> given = new ArrayList<>();
        for (String number : numbers.split(", ")) {
            if (!number.isEmpty()) {
                given.add(Integer.valueOf(number));
            }
        }
        Class<?>[] types = new Class<?>[given.size()];
        Arrays.fill(types, int.class);
        Method method = AilingKing.class.getMethod(name, types);
        return (Integer) method.invoke(king, given.toArray());
    }

    private static int number(String told) throws ReflectiveOperationException {
        if (told.matches("[A-Z]+")) {
            return AilingKing.class.getField(told).getInt(null);
        }
        return Integer.parseInt(told);
    }

    /** How much a text may tell, and what each number may be. */
    private static void limits() {
        Due.sentence("the text");
        Due.castle("k0,7,1;", 0);
        Due.castle("k7,0,5;" + "s0,7;".repeat(8) + "n0,0,0;".repeat(6), 6);
        Due.castle("k1,2,3;s0,1;g1,2;w2,3;m3,4;d4,5;n7,20,20;", 1);
        String[] faulty = {"k1,1,1;", "k8,1,1;", "k1,2,0;", "k1,2,6;", "k1,2,3;s1,1;", "k1,2,3;n0,21,0;",
            "k1,2,3;n0,0,21;", "k 1,2,3;", "k7,0,5;" + "s0,7;".repeat(9), "k7,0,5;" + "n0,0,0;".repeat(7)};
        for (String text : faulty) {
            AilingKing king = new AilingKing();
            Due.feed(king, text);
            int answer = king.castle();
            holds(text + " has a fault within it", answer <= -1000100 && answer > -1000100 - text.length());
            holds("fault() tells which", king.fault() >= 1 && king.fault() <= 3);
        }
        AilingKing full = new AilingKing();
        Due.feed(full, "k".repeat(120));
        Due.due("byte 121", full.feed('k'), Due.FULL);
    }

    /** The table of answers: its numbers are those of the class, and of the findings. */
    private static void answers(String page) throws ReflectiveOperationException {
        Due.sentence("the answers");
        Matcher line = Pattern.compile("\\| `?([A-Z]+)`? \\| (-\\d+) \\|").matcher(page);
        int lines = 0;
        for (; line.find(); lines++) {
            Field told = Due.class.getDeclaredField(line.group(1));
            Due.due(line.group(1), Integer.parseInt(line.group(2)), told.getInt(null));
        }
        Due.due("lines", lines, 9);
    }

    /** The table of calls has every method of the face, each once. */
    private static void calls(String page) {
        Due.sentence("the calls");
        Set<String> told = new TreeSet<>();
        Matcher line = Pattern.compile("\\| ((?:`\\w+` )+)\\|").matcher(between(page, "| calls |", "\n\n"));
        while (line.find()) {
            for (String name : line.group(1).replace("`", "").strip().split(" ")) {
                holds(name + " is told once", told.add(name));
            }
        }
        Set<String> face = new TreeSet<>();
        for (Method method : AilingKing.class.getMethods()) {
            if (method.getDeclaringClass() == AilingKing.class) {
                face.add(method.getName());
            }
        }
        holds(told + " are " + face, told.equals(face));
    }

    /** The table of tests has every test that .ci/run runs here. */
    private static void tests(String page) throws IOException {
        Due.sentence("the tests");
        Set<String> told = new TreeSet<>();
        Matcher line = Pattern.compile("(?m)^\\| `(\\w+Test)` \\|").matcher(page);
        while (line.find()) {
            holds(line.group(1) + " is told once", told.add(line.group(1)));
        }
        Set<String> here = new TreeSet<>();
        try (DirectoryStream<Path> files = Files.newDirectoryStream(Path.of("src/test/java"), "*Test.java")) {
            for (Path file : files) {
                here.add(file.getFileName().toString().replace(".java", ""));
            }
        }
        holds(told + " are " + here, told.equals(here));
        holds(".ci/run can be run", Files.isExecutable(Path.of(".ci/run")));
    }

    /** The classes inside are those that the page names. */
    private static void parts(String words) {
        Due.sentence("the parts");
        Set<String> told = new TreeSet<>();
        Matcher name = Pattern.compile("`([A-Z]\\w+)`").matcher(words);
        while (name.find()) {
            told.add(name.group(1));
        }
        Set<String> inside = new TreeSet<>();
        for (Class<?> one : AilingKing.class.getDeclaredClasses()) {
            inside.add(one.getSimpleName());
        }
        holds(told + " are " + inside, told.equals(inside));
    }
}
