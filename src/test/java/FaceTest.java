import java.io.IOException;
import java.lang.reflect.Constructor;
import java.lang.reflect.Field;
import java.lang.reflect.Method;
import java.lang.reflect.Modifier;
import java.nio.file.Files;
import java.nio.file.Path;
import java.util.ArrayList;
import java.util.List;
import java.util.Set;
import java.util.TreeSet;
import java.util.regex.Matcher;
import java.util.regex.Pattern;

/** The face that the document shows, and those rules of LANGUAGE.md that can be seen without reading. */
public final class FaceTest {
    private static int wrong;

    private static void holds(String what, boolean is) {
        if (!is) {
            wrong++;
            System.out.println("not so: " + what);
        }
    }

    private static Set<String> faceOfDocument() throws IOException {
        Set<String> all = new TreeSet<>();
        Matcher m = Pattern.compile("    public (\\w+) (\\w+)\\(([^)]*)\\);")
                .matcher(Files.readString(Path.of("../shared/DOC.md")));
        while (m.find()) {
            all.add(m.group(1) + " " + m.group(2) + "(" + m.group(3).replaceAll(" \\w+(,|$)", "$1") + ")");
        }
        return all;
    }

    private static Set<String> faceOfClass() {
        Set<String> all = new TreeSet<>();
        for (Method m : MayBoats.class.getDeclaredMethods()) {
            if (Modifier.isPublic(m.getModifiers())) {
                List<String> types = new ArrayList<>();
                for (Class<?> t : m.getParameterTypes()) {
                    types.add(t.getSimpleName());
                }
                all.add(m.getReturnType().getSimpleName() + " " + m.getName() + "(" + String.join(", ", types) + ")");
            }
        }
        return all;
    }

    private static void face() throws IOException {
        Set<String> due = faceOfDocument();
        holds("the document shows 53 methods: " + due.size(), due.size() == 53);
        holds("the methods are " + due + ", not " + faceOfClass(), due.equals(faceOfClass()));
        int kind = MayBoats.class.getModifiers();
        holds("public and final", Modifier.isPublic(kind) && Modifier.isFinal(kind));
        Constructor<?>[] made = MayBoats.class.getDeclaredConstructors();
        holds("one public constructor", made.length == 1 && Modifier.isPublic(made[0].getModifiers()));
        Set<String> names = new TreeSet<>();
        for (String s : due) {
            names.add(s.replaceAll(".* (\\w+)\\(.*", "$1"));
        }
        for (Method m : MayBoats.class.getDeclaredMethods()) {
            boolean open = Modifier.isPublic(m.getModifiers());
            holds(m + " is private", open || Modifier.isPrivate(m.getModifiers()));
            holds(m + " bears a name of its own", open || !names.contains(m.getName()));
        }
        for (Field f : MayBoats.class.getDeclaredFields()) {
            boolean none = f.getName().equals("NONE") && Modifier.isPublic(f.getModifiers());
            holds(f + " is private", none || Modifier.isPrivate(f.getModifiers()));
        }
        inside(names);
    }

    private static void inside(Set<String> names) {
        Class<?>[] all = MayBoats.class.getDeclaredClasses();
        holds("twelve classes at most", all.length <= 11);
        for (Class<?> k : all) {
            holds(k + " is static", Modifier.isStatic(k.getModifiers()) && !Modifier.isPublic(k.getModifiers()));
            int fields = 0;
            for (Field f : k.getDeclaredFields()) {
                fields += Modifier.isStatic(f.getModifiers()) ? 0 : 1;
                holds(f + " is final", !Modifier.isStatic(f.getModifiers()) || Modifier.isFinal(f.getModifiers()));
            }
            holds(k + " has some twenty fields", fields <= 20);
            for (Method m : k.getDeclaredMethods()) {
                holds(m + " has seven parameters at most", m.getParameterCount() <= 7);
                holds(m + " bears a name of its own", !names.contains(m.getName()));
            }
        }
    }

    private static void language() throws IOException {
        String source = Files.readString(Path.of("src/main/java/MayBoats.java"));
        String bare = source.replaceAll("(?s)/\\*.*?\\*/", "").replaceAll("//[^\n]*", "").replaceAll("\"[^\"\n]*\"", "\"\"");
        for (String word : new String[] {"throw", "throws", "try", "catch", "synchronized", "assert", "protected",
            "package", "instanceof", "volatile", "native", "double", "float", "var", "yield"}) {
            holds("no " + word, !Pattern.compile("\\b" + word + "\\b").matcher(bare).find());
        }
        for (String sign : new String[] {"->", "::", "@", "String[]", "while"}) {
            holds("no " + sign, !bare.contains(sign));
        }
        Matcher imports = Pattern.compile("(?m)^import (.*);").matcher(bare);
        while (imports.find()) {
            holds(imports.group(1), imports.group(1).equals("java.util.Arrays"));
        }
        Set<String> lent = Set.of("Math.max", "Math.min", "Math.abs", "Math.floorDiv", "Arrays.fill", "System.arraycopy");
        Matcher calls = Pattern.compile("\\b(Math|Arrays|System|Integer|Long|String|Character)\\.\\w+").matcher(bare);
        while (calls.find()) {
            holds(calls.group() + " is lent", lent.contains(calls.group()));
        }
        holds("signs 1 to 127 alone", source.chars().allMatch(ch -> ch > 0 && ch < 128));
        lengths(source);
    }

    private static void lengths(String source) {
        int from = 0;
        String[] lines = source.split("\n");
        for (int i = 0; i < lines.length; i++) {
            holds("line " + (i + 1) + " is short", lines[i].length() <= 120);
            if (lines[i].matches(" {4}( {4})?[\\w\\[\\]. ]+\\(.*\\{") && !lines[i].matches(".*\\b(if|for|switch)\\b.*")) {
                from = i;
            }
            if (lines[i].matches(" {4}( {4})?\\}")) {
                holds("the method up to line " + (i + 1) + " is short", i - from < 60 || lines[i].matches(" {4}\\}"));
            }
        }
    }

    public static void main(String[] args) throws IOException {
        face();
        language();
        System.out.println(wrong == 0 ? "FaceTest: the face and the rules hold" : "FaceTest: " + wrong + " are not so");
        System.exit(wrong == 0 ? 0 : 1);
    }
}
