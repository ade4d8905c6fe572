import java.io.IOException;
import java.lang.reflect.Constructor;
import java.lang.reflect.Field;
import java.lang.reflect.Method;
import java.lang.reflect.Modifier;
import java.nio.charset.StandardCharsets;
import java.nio.file.Files;
import java.nio.file.Path;
import java.util.ArrayList;
import java.util.List;
import java.util.Set;
import java.util.TreeSet;
import java.util.regex.Matcher;
import java.util.regex.Pattern;

/** The public face, and those rules of LANGUAGE.md that can be seen from outside or in the text. */
public final class FaceTest {
    private static final Check check = new Check("FaceTest");

    private static final String[] FACE = {
        "feed int", "dale", "fault", "told int", "farm int int", "talk int int", "logged int int", "hour int",
        "say int int", "rain int", "frost boolean", "dam int boolean", "smooth int", "hush int", "drift int", "undo",
        "down int", "up int", "becomes int int int", "takes int int", "toSay int int int", "origin int int int",
        "privately int", "dams int int", "willHear int int int", "where int int int", "dry int int", "see int int",
        "falls int", "tryNext", "write int int", "tear", "judge", "seed int", "keep int", "goBack int"};

    public static void main(String[] args) throws IOException {
        constants();
        members();
        nested();
        String path = args.length > 0 ? args[0] : "src/main/java/BeckTalk.java";
        source(Files.readString(Path.of(path), StandardCharsets.ISO_8859_1));
        check.end();
    }

    private static void constants() {
        check.due("NONE", BeckTalk.NONE, -1);
        check.due("UNKNOWN", BeckTalk.UNKNOWN, -1000000001);
        check.due("OUTSIDE", BeckTalk.OUTSIDE, -1000000002);
        check.due("NOT", BeckTalk.NOT, -1000000003);
        check.due("FULL", BeckTalk.FULL, -1000000004);
    }

    private static void members() {
        Set<String> due = new TreeSet<>(List.of(FACE));
        Set<String> got = new TreeSet<>();
        for (Method m : BeckTalk.class.getDeclaredMethods()) {
            if (!Modifier.isPrivate(m.getModifiers())) {
                StringBuilder s = new StringBuilder(m.getName());
                for (Class<?> type : m.getParameterTypes()) {
                    s.append(' ').append(type.getName());
                }
                got.add(s.toString());
                holds(m.getName() + " answers an int", m.getReturnType() == int.class);
                holds(m.getName() + " is public", Modifier.isPublic(m.getModifiers()));
            }
        }
        check.same("the methods", got.toString(), due.toString());
        holds("the class is public and final", Modifier.isPublic(BeckTalk.class.getModifiers())
            && Modifier.isFinal(BeckTalk.class.getModifiers()));
        Constructor<?>[] made = BeckTalk.class.getDeclaredConstructors();
        holds("one constructor, public, of nothing",
            made.length == 1 && Modifier.isPublic(made[0].getModifiers()) && made[0].getParameterCount() == 0);
        Set<String> open = new TreeSet<>();
        for (Field f : BeckTalk.class.getDeclaredFields()) {
            if (!Modifier.isPrivate(f.getModifiers())) {
                open.add(f.getName());
            }
        }
        check.same("the open fields", open.toString(), "[FULL, NONE, NOT, OUTSIDE, UNKNOWN]");
    }

    private static void nested() {
        Set<String> face = new TreeSet<>();
        for (String call : FACE) {
            face.add(call.split(" ")[0]);
        }
        List<Class<?>> all = new ArrayList<>(List.of(BeckTalk.class.getDeclaredClasses()));
        holds("at most twelve classes", all.size() < 12);
        for (Class<?> c : all) {
            holds(c.getName() + " is static and not public",
                Modifier.isStatic(c.getModifiers()) && !Modifier.isPublic(c.getModifiers()));
            for (Method m : c.getDeclaredMethods()) {
                holds(c.getName() + "." + m.getName() + " has no name of the face", !face.contains(m.getName()));
            }
        }
        all.add(BeckTalk.class);
        for (Class<?> c : all) {
            int fields = 0;
            for (Field f : c.getDeclaredFields()) {
                boolean constant = Modifier.isStatic(f.getModifiers());
                fields += constant ? 0 : 1;
                holds(f + " is final", !constant || Modifier.isFinal(f.getModifiers()));
            }
            holds(c.getName() + " has at most twenty fields", fields <= 20);
            for (Method m : c.getDeclaredMethods()) {
                holds(m + " takes at most seven", m.getParameterCount() <= 7);
                holds(m + " is private or the face's", c != BeckTalk.class
                    || Modifier.isPrivate(m.getModifiers()) != face.contains(m.getName()));
            }
        }
    }

    private static void source(String whole) {
        for (int i = 0; i < whole.length(); i++) {
            char c = whole.charAt(i);
            if (c > 126 || c < 32 && c != '\n') {
                holds("letter " + i + " is plain", false);
            }
        }
        String code = whole.replaceAll("(?s)/\\*.*?\\*/", "").replaceAll("//[^\n]*", "");
        String[] words = {"throw", "throws", "try", "catch", "finally", "synchronized", "assert", "package", "native",
            "volatile", "transient", "yield", "var", "double", "float", "System.out", "System.exit", "hashCode",
            "toString", "Exact", "Random", "Thread", "static \\{"};
        for (String word : words) {
            holds("no " + word, !Pattern.compile("\\b" + word + "(\\b|(?<=\\{))").matcher(code).find());
        }
        holds("no arrow", !code.contains("->"));
        holds("no method reference", !code.contains("::"));
        holds("no text joined", !code.contains("\""));
        check.same("the imports", all(code, "import [^;]*;"), "import java.util.Arrays;");
        check.same("the library", all(code, "\\b(System|Arrays|Math|Integer|Long)\\.\\w+"),
            "Arrays.fill Integer.bitCount Math.max Math.min System.arraycopy");
        made(code);
        lengths(code);
    }

    // Everything is made with the object: by fields where they stand, and in constructors.
    private static void made(String code) {
        for (String line : code.split("\n")) {
            if (line.contains(" new ")) {
                holds("made at first alone:" + line, line.matches("        final (int|World)\\[\\] \\w+ = new .*;")
                    || line.matches("        \\w+ = new \\w+(\\(\\)|\\[\\w+\\]);")
                    || line.matches(" +\\w+\\[i\\] = new World\\(\\);"));
            }
        }
    }

    private static void lengths(String code) {
        String[] lines = code.split("\n");
        int start = -1;
        String indent = "";
        for (int i = 0; i < lines.length; i++) {
            Matcher m = Pattern.compile("^( +)[^;=]*\\) \\{$").matcher(lines[i]);
            boolean opens = m.matches() && (m.group(1).length() == 4 || m.group(1).length() == 8)
                && !lines[i].trim().matches("(if|for|while|switch|\\}).*");
            if (start < 0 && opens) {
                start = i;
                indent = m.group(1);
            } else if (start >= 0 && lines[i].equals(indent + "}")) {
                holds(lines[start].trim() + " is short", i - start < 60);
                start = -1;
            }
        }
    }

    private static String all(String code, String pattern) {
        Set<String> found = new TreeSet<>();
        Matcher m = Pattern.compile(pattern).matcher(code);
        while (m.find()) {
            found.add(m.group());
        }
        return String.join(" ", found);
    }

    private static void holds(String what, boolean is) {
        check.due(what, is ? 1 : 0, 1);
    }
}
