import java.io.IOException;
import java.lang.reflect.Constructor;
import java.lang.reflect.Field;
import java.lang.reflect.Method;
import java.lang.reflect.Modifier;
import java.nio.file.Files;
import java.nio.file.Path;
import java.util.Arrays;
import java.util.Set;
import java.util.TreeSet;
import java.util.regex.Matcher;
import java.util.regex.Pattern;

/** The document's face, and those rules of ../shared/LANGUAGE.md that can be looked up in the class or its text. */
public final class FaceTest {
    private static final String FACE = "row:3 set:3 copy:5 drop:1 feed:1 wood:0 fault:0 years:1 cut:4 anew:2 scrape:1 "
            + "undo:0 tree:2 cutHas:2 apart:2 together:2 girth:2 left:1 free:2 holds:3 deep:2 meet:2 rings:2 gaps:4 "
            + "which:5 storm:4 image:1 restore:1 kind:1 as:2 ask:2 trace:1 count:1 status:0";
    private static final String CONSTANTS = "NONE BAD STATE FULL";
    private static final String[] RULED_OUT = {
        "throw", "throws", "try", "catch", "finally", "synchronized", "assert", "protected", "var", "yield",
        "Object", "Class", "System\\.(?!arraycopy)", "\\w+Exact\\(", "hashCode", "toString\\(\\) *\\{", "->", "::",
    };

    private static final String LIBRARY = "Math.max Math.min Math.abs Integer.bitCount System.arraycopy Arrays.fill";

    public static void main(String[] args) throws IOException {
        methods();
        constants();
        nested();
        text(Files.readString(Path.of("src/main/java/BarkNames.java")));
        Check.end();
    }

    private static void methods() {
        Set<String> due = new TreeSet<>(Arrays.asList(FACE.split(" ")));
        Set<String> names = new TreeSet<>();
        for (String name : due) {
            names.add(name.split(":")[0]);
        }
        for (Method m : BarkNames.class.getDeclaredMethods()) {
            if (Modifier.isPrivate(m.getModifiers())) {
                Check.due("a private method of a public one's name: " + m, names.contains(m.getName()) ? 1 : 0, 0);
                continue;
            }
            Check.due("in the face: " + m, due.remove(m.getName() + ":" + m.getParameterCount()) ? 1 : 0, 1);
            Check.due("public: " + m, Modifier.isPublic(m.getModifiers()) ? 1 : 0, 1);
            Check.due("int: " + m, m.getReturnType() == int.class ? 1 : 0, 1);
        }
        Check.due("missing: " + due, due.size(), 0);
        Constructor<?>[] constructors = BarkNames.class.getDeclaredConstructors();
        Check.due("constructors", constructors.length, 1);
        Check.due("a constructor's parameters", constructors[0].getParameterCount(), 0);
    }

    private static void constants() {
        Set<String> due = new TreeSet<>(Arrays.asList(CONSTANTS.split(" ")));
        int own = 0;
        for (Field f : BarkNames.class.getDeclaredFields()) {
            int m = f.getModifiers();
            own += Modifier.isStatic(m) ? 0 : 1;
            Check.due("final, if static: " + f, Modifier.isStatic(m) && !Modifier.isFinal(m) ? 1 : 0, 0);
            if (!Modifier.isPrivate(m)) {
                Check.due("in the face: " + f, due.remove(f.getName()) && Modifier.isPublic(m) ? 1 : 0, 1);
            }
        }
        Check.due("missing: " + due, due.size(), 0);
        Check.due("twenty fields at most, it has " + own, own <= 20 ? 1 : 0, 1);
        Check.due("NONE", BarkNames.NONE, -1000000);
        Check.due("BAD", BarkNames.BAD, -1000001);
        Check.due("STATE", BarkNames.STATE, -1000002);
        Check.due("FULL", BarkNames.FULL, -1000003);
        Check.due("a final class", Modifier.isFinal(BarkNames.class.getModifiers()) ? 1 : 0, 1);
    }

    private static void nested() {
        Class<?>[] nested = BarkNames.class.getDeclaredClasses();
        Check.due("twelve classes at most", nested.length < 12 ? 1 : 0, 1);
        Set<String> names = new TreeSet<>();
        for (String name : FACE.split(" ")) {
            names.add(name.split(":")[0]);
        }
        for (Class<?> c : nested) {
            int m = c.getModifiers();
            Check.due("static: " + c, Modifier.isStatic(m) ? 1 : 0, 1);
            Check.due("not public, not protected: " + c, m & (Modifier.PUBLIC | Modifier.PROTECTED), 0);
            Check.due("twenty fields at most: " + c, c.getDeclaredFields().length <= 20 ? 1 : 0, 1);
            for (Method method : c.getDeclaredMethods()) {
                Check.due("a public one's name: " + method, names.contains(method.getName()) ? 1 : 0, 0);
                Check.due("seven parameters at most: " + method, method.getParameterCount() <= 7 ? 1 : 0, 1);
            }
        }
    }

    private static void text(String source) {
        String code = source.replaceAll("(?s)/\\*.*?\\*/", "").replaceAll("//[^\n]*", "").replaceAll("'.'", "' '");
        for (String word : RULED_OUT) {
            String whole = word.matches("[A-Za-z]+") ? "\\b" + word + "\\b" : word;
            Matcher m = Pattern.compile(whole).matcher(code);
            Check.due("ruled out: " + word, m.find() ? 1 : 0, 0);
        }
        Matcher imports = Pattern.compile("import ([^;]*);").matcher(code);
        while (imports.find()) {
            boolean fine = imports.group(1).matches("java\\.util\\.(Arrays|ArrayList|List|Iterator)");
            Check.due("import " + imports.group(1), fine ? 1 : 0, 1);
        }
        Set<String> library = new TreeSet<>(Arrays.asList(LIBRARY.split(" ")));
        Matcher calls = Pattern.compile("\\b[A-Z]\\w*\\.\\w+(?=\\()").matcher(code);
        while (calls.find()) {
            Check.due("called: " + calls.group(), library.contains(calls.group()) ? 1 : 0, 1);
        }
        Check.due("a text, or joining of texts", code.indexOf('"'), -1);
        Check.due("a sign that is none of 1 to 127", (int) source.chars().filter(c -> c < 1 || c > 127).count(), 0);
        // methods stand 4 or 8 blanks in, and so do their ends
        Matcher bodies = Pattern.compile("(?ms)^( {4}| {8})[^ \n][^\n]*\\) \\{\n.*?^\\1\\}$").matcher(source);
        while (bodies.find()) {
            long lines = bodies.group().lines().count();
            Check.due("sixty lines at most: " + bodies.group().lines().findFirst(), lines <= 60 ? 1 : 0, 1);
        }
    }
}
