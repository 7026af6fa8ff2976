import java.io.IOException;
import java.lang.reflect.Constructor;
import java.lang.reflect.Field;
import java.lang.reflect.Method;
import java.lang.reflect.Modifier;
import java.nio.file.Files;
import java.nio.file.Path;
import java.util.Set;
import java.util.TreeSet;
import java.util.regex.Matcher;
import java.util.regex.Pattern;

/** The public face, and those rules of LANGUAGE.md that can be seen in the text without reading it whole. */
public final class FaceTest {
    private static final String METHODS = "row/3 set/3 copy/5 drop/1 feed/1 castle/0 fault/0 invite/1 show/1 speak/0"
            + " tale/2 undo/0 guest/2 hint/2 leads/2 route/3 thinkable/1 chance/3 taught/1 bestGuest/1 cover/1"
            + " spoilt/1 nearly/3 image/1 restore/1 kind/1 as/2 ask/2 trace/1 count/1 status/0";
    private static final String LIBRARY = "System.arraycopy Integer.bitCount Math.max Math.min";

    public static void main(String[] args) throws IOException {
        constants();
        members();
        nestedClasses();
        textKeepsToTheRules(Files.readString(Path.of("src/main/java/AilingKing.java")));
        Due.finish();
    }

    private static void constants() {
        Due.due("NONE", AilingKing.NONE, -1000000);
        Due.due("BAD", AilingKing.BAD, -1000001);
        Due.due("STATE", AilingKing.STATE, -1000002);
        Due.due("FULL", AilingKing.FULL, -1000003);
    }

    private static void holds(String what, boolean holds) {
        Due.due(what, holds ? 1 : 0, 1);
    }

    private static void members() {
        holds("public and final", Modifier.isPublic(AilingKing.class.getModifiers())
                && Modifier.isFinal(AilingKing.class.getModifiers()));
        Set<String> face = new TreeSet<>();
        Set<String> names = new TreeSet<>();
        for (Method method : AilingKing.class.getDeclaredMethods()) {
            if (Modifier.isPublic(method.getModifiers())) {
                face.add(method.getName() + "/" + method.getParameterCount());
                names.add(method.getName());
                holds(method.getName() + " answers int", method.getReturnType() == int.class);
            }
        }
        holds("the methods are " + face, face.equals(new TreeSet<>(Set.of(METHODS.split(" ")))));
        for (Method method : AilingKing.class.getDeclaredMethods()) {
            boolean isPublic = Modifier.isPublic(method.getModifiers());
            holds(method.getName() + " is public or private", isPublic || Modifier.isPrivate(method.getModifiers()));
            holds(method.getName() + " has its name alone", isPublic || !names.contains(method.getName()));
            holds(method.getName() + " takes seven at most", method.getParameterCount() <= 7);
        }
        for (Field field : AilingKing.class.getDeclaredFields()) {
            boolean isFace = Set.of("NONE", "BAD", "STATE", "FULL").contains(field.getName());
            holds(field.getName(), isFace || Modifier.isPrivate(field.getModifiers()));
        }
        Constructor<?>[] constructors = AilingKing.class.getDeclaredConstructors();
        holds("one constructor", constructors.length == 1 && constructors[0].getParameterCount() == 0
                && Modifier.isPublic(constructors[0].getModifiers()));
    }

    private static void nestedClasses() {
        Class<?>[] inside = AilingKing.class.getDeclaredClasses();
        holds("twelve classes at most", inside.length <= 11);
        for (Class<?> one : inside) {
            holds(one + " is static", Modifier.isStatic(one.getModifiers()));
            holds(one + " is not public", !Modifier.isPublic(one.getModifiers()));
            int fields = 0;
            for (Field field : one.getDeclaredFields()) {
                boolean isStatic = Modifier.isStatic(field.getModifiers());
                holds(field + " is final, if static", !isStatic || Modifier.isFinal(field.getModifiers()));
                fields += isStatic ? 0 : 1;
            }
            holds(one + " has twenty fields at most", fields <= 20);
            for (Method method : one.getDeclaredMethods()) {
                holds(method + " takes seven at most", method.getParameterCount() <= 7);
                holds(method + " has its name alone", !(" " + METHODS).contains(" " + method.getName() + "/"));
            }
        }
    }

    private static void textKeepsToTheRules(String text) {
        String code = text.replaceAll("(?s)/\\*.*?\\*/", " ").replaceAll("//[^\n]*", " ").replaceAll("'[^']'", "0");
        String[] none = {"throw", "throws", "try", "catch", "synchronized", "assert", "import", "package", "equals",
            "hashCode", "toString", "new \\w+<", "instanceof"};
        for (String word : none) {
            holds("no " + word, !Pattern.compile("\\b" + word + "\\b").matcher(code).find());
        }
        String[] signs = {"->", "::", "\"", "@"};
        for (String sign : signs) {
            holds("no " + sign, !code.contains(sign));
        }
        Matcher calls = Pattern.compile("\\b(System|Integer|Math|Arrays|Long|String)\\.\\w+").matcher(code);
        while (calls.find()) {
            holds(calls.group() + " is in the library", Set.of(LIBRARY.split(" ")).contains(calls.group()));
        }
    }
}
