import java.lang.reflect.Constructor;
import java.lang.reflect.Field;
import java.lang.reflect.Method;
import java.lang.reflect.Modifier;
import java.nio.file.Files;
import java.nio.file.Path;
import java.util.List;
import java.util.TreeSet;
import java.util.regex.Matcher;
import java.util.regex.Pattern;

/** The face of the document, and those rules of LANGUAGE.md that can be seen from outside or in the text. */
public final class RulesTest {
    static int wrong = 0;

    static void tell(String what) {
        wrong++;
        System.out.println(what);
    }

    public static void main(String[] args) throws Exception {
        face();
        constants();
        nested(SeriesPress.class);
        text(Files.readString(Path.of("src/main/java/SeriesPress.java")));
        if (wrong != 0) {
            System.out.println(wrong + " rules are broken");
            System.exit(1);
        }
        System.out.println("face and rules are kept");
    }

    static TreeSet<String> documentFace() throws Exception {
        TreeSet<String> face = new TreeSet<>();
        Pattern method = Pattern.compile("^    public (int|long) (\\w+)\\((.*)\\);$");
        for (String line : Files.readAllLines(Path.of("../shared/DOC.md"))) {
            Matcher m = method.matcher(line);
            if (m.matches()) {
                face.add(m.group(1) + " " + m.group(2) + "(" + m.group(3).replaceAll(" \\w+(,|$)", "$1") + ")");
            }
        }
        return face;
    }

    /** "public static final int NONE = -1;" and its like, as the document's face has them. */
    static void constants() throws Exception {
        Pattern constant = Pattern.compile("^    public static final (int|long) (\\w+) = (-?\\w+);$");
        int found = 0;
        for (String line : Files.readAllLines(Path.of("../shared/DOC.md"))) {
            Matcher m = constant.matcher(line);
            if (m.matches()) {
                found++;
                Field f = SeriesPress.class.getDeclaredField(m.group(2));
                boolean fixed = Modifier.isPublic(f.getModifiers()) && Modifier.isStatic(f.getModifiers())
                        && Modifier.isFinal(f.getModifiers());
                if (!fixed || !f.getType().toString().equals(m.group(1))
                        || f.getLong(null) != Long.decode(m.group(3).replace("L", ""))) {
                    tell("rule 1: " + f + ", due is " + line.strip());
                }
            }
        }
        if (found != 2) {
            tell("rule 1: " + found + " constants in the document's face");
        }
    }

    static void face() throws Exception {
        TreeSet<String> due = documentFace();
        TreeSet<String> is = new TreeSet<>();
        for (Method m : SeriesPress.class.getDeclaredMethods()) {
            if (Modifier.isPublic(m.getModifiers())) {
                StringBuilder types = new StringBuilder();
                for (Class<?> c : m.getParameterTypes()) {
                    types.append(types.length() > 0 ? ", " : "").append(c);
                }
                is.add(m.getReturnType() + " " + m.getName() + "(" + types + ")");
            } else if (!Modifier.isPrivate(m.getModifiers())) {
                tell("rule 1: " + m);
            }
        }
        if (due.size() != 45 || !due.equals(is)) {
            tell("rule 1: the face is " + is + ", due is " + due);
        }
        for (Field f : SeriesPress.class.getDeclaredFields()) {
            boolean constant = f.getName().equals("NONE") || f.getName().equals("NO_NUMBER");
            if (constant != Modifier.isPublic(f.getModifiers()) || !constant && !Modifier.isPrivate(f.getModifiers())) {
                tell("rule 1: " + f);
            }
        }
        Constructor<?>[] all = SeriesPress.class.getDeclaredConstructors();
        if (all.length != 1 || !Modifier.isPublic(all[0].getModifiers()) || all[0].getParameterCount() != 0) {
            tell("rule 1: constructors");
        }
        if (!Modifier.isFinal(SeriesPress.class.getModifiers())) {
            tell("rule 1: not final");
        }
    }

    static void nested(Class<?> outer) throws Exception {
        TreeSet<String> names = new TreeSet<>();
        for (Method m : outer.getDeclaredMethods()) {
            if (Modifier.isPublic(m.getModifiers())) {
                names.add(m.getName());
            } else if (names(documentFace()).contains(m.getName())) {
                tell("rule 1: " + m);
            }
        }
        if (outer.getDeclaredClasses().length > 12) {
            tell("rule 11: more than twelve classes");
        }
        for (Class<?> c : outer.getDeclaredClasses()) {
            if (!Modifier.isStatic(c.getModifiers()) || Modifier.isPublic(c.getModifiers())) {
                tell("rule 1: " + c);
            }
            int fields = 0;
            for (Field f : c.getDeclaredFields()) {
                fields += Modifier.isStatic(f.getModifiers()) ? 0 : 1;
                if (Modifier.isStatic(f.getModifiers()) && !Modifier.isFinal(f.getModifiers())) {
                    tell("rule 5: " + f);
                }
            }
            if (fields > 20) {
                tell("rule 11: " + fields + " fields in " + c);
            }
            for (Method m : c.getDeclaredMethods()) {
                if (names.contains(m.getName())) {
                    tell("rule 1: " + m);
                }
                if (m.getParameterCount() > 7) {
                    tell("rule 11: " + m);
                }
            }
        }
    }

    static TreeSet<String> names(TreeSet<String> face) {
        TreeSet<String> names = new TreeSet<>();
        face.forEach(f -> names.add(f.replaceAll("\\w+ (\\w+)\\(.*", "$1")));
        return names;
    }

    static void text(String source) {
        String code = source.replaceAll("(?s)/\\*.*?\\*/", "").replaceAll("//[^\n]*", "");
        for (String word : List.of("import", "package", "double", "float", "try", "catch", "throw", "finally",
                "synchronized", "assert", "instanceof", "var", "Double", "Float", "Random", "Thread", "Object")) {
            if (Pattern.compile("\\b" + word + "\\b").matcher(code).find()) {
                tell("not in this program: " + word);
            }
        }
        for (String sign : List.of("->", "::", "Exact", "\"")) {
            if (code.contains(sign)) {
                tell("not in this program: " + sign);
            }
        }
        // Rule 4 lists static functions of Long, not its constants: MAX_VALUE, MIN_VALUE are not among them.
        Matcher calls = Pattern.compile("\\b(System|Math|Long|Integer|Arrays)\\.(\\w+)").matcher(code);
        TreeSet<String> listed = new TreeSet<>(List.of("System.arraycopy", "Math.min", "Math.max", "Math.floorMod",
                "Long.numberOfLeadingZeros", "Long.numberOfTrailingZeros"));
        while (calls.find()) {
            if (!listed.contains(calls.group())) {
                tell("rule 4: " + calls.group());
            }
        }
        if (source.chars().anyMatch(c -> c > 126)) {
            tell("rule 4: a sign above 126");
        }
        shortMethods(source);
    }

    static void shortMethods(String source) {
        int begin = 0;
        String[] lines = source.split("\n");
        for (int i = 0; i < lines.length; i++) {
            if (lines[i].matches(" {4,8}\\S.*\\) \\{")) {
                begin = i;
            }
            if (lines[i].matches(" {4,8}\\}") && i - begin > 60 && lines[begin].indexOf('\t') < 0
                    && lines[i].indexOf('}') == lines[begin].length() - lines[begin].stripLeading().length()) {
                tell("rule 11: a long method at line " + (begin + 1));
            }
        }
    }
}
