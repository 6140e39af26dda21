import java.io.IOException;
import java.lang.reflect.Constructor;
import java.lang.reflect.Field;
import java.lang.reflect.Method;
import java.lang.reflect.Modifier;
import java.nio.file.Files;
import java.nio.file.Path;
import java.util.Arrays;
import java.util.List;
import java.util.Set;
import java.util.TreeSet;
import java.util.regex.Matcher;
import java.util.regex.Pattern;
import java.util.stream.Collectors;

/** The rules of LANGUAGE.md that can be seen in the source and in the compiled class. */
public final class LanguageTest {
    private static final Checks CHECKS = new Checks();
    private static final Set<String> FACE = Set.of("giveBytes", "cutBytes", "pokeByte", "loadMap", "loadDemo", "saveMap", "saveDemo",
        "turnBytes", "startAt", "addInput", "dropInputs", "playTo", "stepBy", "walkerOf", "sectorOf", "pixelAt", "surfaceAt", "metAt",
        "frameOf", "nodeOf", "leafOf", "byteOf", "lookAt");
    private static final Set<String> LIBRARY = Set.of("Math.max", "Math.min", "Math.abs", "Math.floorDiv", "Math.floorMod",
        "Long.signum", "Integer.signum", "Arrays.copyOf", "Arrays.fill", "System.arraycopy");

    public static void main(String[] args) throws IOException {
        String source = Files.readString(Path.of("src/main/java/SectorView.java"));
        String code = source.replaceAll("(?s)/\\*.*?\\*/", "").replaceAll("//[^\n]*", "");
        words(code);
        library(code);
        methodLengths(code);
        face();
        members(SectorView.class);
        for (Class<?> inner : SectorView.class.getDeclaredClasses()) {
            CHECKS.due(inner + " is static", Modifier.isStatic(inner.getModifiers()), true);
            CHECKS.due(inner + " is not public", Modifier.isPublic(inner.getModifiers()), false);
            members(inner);
        }
        CHECKS.due("some twelve classes", SectorView.class.getDeclaredClasses().length <= 12, true);
        CHECKS.end();
    }

    private static void words(String code) {
        for (String word : List.of("throw", "throws", "try", "catch", "synchronized", "assert", "package", "Object", "equals", "hashCode",
            "toString", "double", "float", "String", "instanceof", "while")) {
            CHECKS.due("the word " + word, Pattern.compile("\\b" + word + "\\b").matcher(code).find(), false);
        }
        for (String sign : List.of("->", "::", "Exact", "@", "null")) {
            CHECKS.due("the sign " + sign, code.contains(sign), false);
        }
        Matcher imports = Pattern.compile("import ([^;]+);").matcher(code);
        while (imports.find()) {
            CHECKS.due("import " + imports.group(1), imports.group(1).equals("java.util.Arrays"), true);
        }
    }

    private static void library(String code) {
        Matcher calls = Pattern.compile("\\b(?:Math|Long|Integer|Arrays|System)\\.\\w+").matcher(code);
        while (calls.find()) {
            CHECKS.due(calls.group(), LIBRARY.contains(calls.group()), true);
        }
    }

    private static void methodLengths(String code) {
        int from = -1;
        String[] lines = code.split("\n");
        for (int i = 0; i < lines.length; i++) {
            if (lines[i].matches(" {4}(?: {4})?(?! )[^=;]*\\(.*\\) \\{")) {
                from = i;
            } else if (lines[i].matches(" {4}(?: {4})?\\}") && from >= 0) {
                CHECKS.due("line " + from + ": a method of " + (i - from + 1), i - from + 1 <= 60, true);
                from = -1;
            }
        }
    }

    /** The document's face, each member with its types alone: names of parameters are free. */
    private static Set<String> faceOfDocument() throws IOException {
        Set<String> members = new TreeSet<>();
        Matcher lines = Pattern.compile("(?m)^    public ([^;=]+)[^;]*;$").matcher(Files.readString(Path.of("../shared/DOC.md")));
        while (lines.find()) {
            members.add(lines.group(1).strip().replaceAll("(\\w+) \\w+(?=[,)])", "$1"));
        }
        return members;
    }

    private static Set<String> faceOfClass() {
        Set<String> members = new TreeSet<>();
        for (Field f : SectorView.class.getFields()) {
            members.add(Modifier.toString(f.getModifiers()).replace("public ", "") + " " + f.getType() + " " + f.getName());
        }
        for (Constructor<?> c : SectorView.class.getConstructors()) {
            members.add(c.getName() + types(c.getParameterTypes()));
        }
        for (Method m : SectorView.class.getDeclaredMethods()) {
            if (Modifier.isPublic(m.getModifiers())) {
                members.add(m.getReturnType() + " " + m.getName() + types(m.getParameterTypes()));
            }
        }
        return members;
    }

    private static String types(Class<?>[] types) {
        return Arrays.stream(types).map(Class::getName).collect(Collectors.joining(", ", "(", ")"));
    }

    private static void face() throws IOException {
        Set<String> names = new TreeSet<>();
        for (Method m : SectorView.class.getDeclaredMethods()) {
            if (Modifier.isPublic(m.getModifiers())) {
                names.add(m.getName());
            } else {
                CHECKS.due(m + " is private", Modifier.isPrivate(m.getModifiers()), true);
            }
        }
        CHECKS.due("the face " + names, names.equals(FACE), true);
        CHECKS.due("the face is the document's: " + faceOfClass(), faceOfClass().equals(faceOfDocument()), true);
        for (Field f : SectorView.class.getDeclaredFields()) {
            CHECKS.due(f + " is private", Modifier.isPrivate(f.getModifiers()), !f.getName().equals("NONE"));
        }
        for (Constructor<?> c : SectorView.class.getDeclaredConstructors()) {
            CHECKS.due(c + " is public", Modifier.isPublic(c.getModifiers()), true);
        }
        CHECKS.due("final", Modifier.isFinal(SectorView.class.getModifiers()), true);
        CHECKS.due("NONE", SectorView.NONE, -1);
    }

    private static void members(Class<?> type) {
        int fields = 0;
        for (Field f : type.getDeclaredFields()) {
            if (Modifier.isStatic(f.getModifiers())) {
                CHECKS.due(f + " is final", Modifier.isFinal(f.getModifiers()), true);
            } else {
                fields++;
            }
        }
        CHECKS.due(type + " has " + fields + " fields", fields <= 20, true);
        for (Method m : type.getDeclaredMethods()) {
            CHECKS.due(m + " has at most seven parameters", m.getParameterCount() <= 7, true);
            boolean ownName = type != SectorView.class || !Modifier.isPublic(m.getModifiers());
            CHECKS.due(m + " bears a name of the face", ownName && FACE.contains(m.getName()), false);
        }
    }
}
