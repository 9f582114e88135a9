import java.lang.reflect.Constructor;
import java.lang.reflect.Field;
import java.lang.reflect.Method;
import java.lang.reflect.Modifier;
import java.nio.charset.StandardCharsets;
import java.nio.file.Files;
import java.nio.file.Path;
import java.util.Arrays;
import java.util.Set;
import java.util.TreeSet;
import java.util.regex.Matcher;
import java.util.regex.Pattern;

// The face of the document and the rules of ../shared/LANGUAGE.md that can be seen from outside or in the letters.
public final class RoofWarFace {
    private static final String CALLS =
        "roof 4 told 2 as 2 turns 2 set 3 moves 2 house 2 lodges 3 rule 2 deal 1 seed 1 nights 1 hill 1 loot 2 steals 1 "
        + "fits 2 prize 2 behind 2 gone 1 guard 3 becomes 3 like 2 fee 0 fine 1 feed 3 trim 1 text 0 textTold 2 why 1 "
        + "sheet 3 mark 3 pour 1 reads 1 copy 5 lay 3 ask 2 item 2 rest 2 tell 1 check 1 keep 0 back 0 count 1";
    private static final String CONSTANTS =
        "BAD -1000000001 NO -1000000002 FULL -1000000003 NONE -1000000005 NOTHING -1000000011 KIND -1000000012 "
        + "INDEX -1000000013 SIZE -1000000014";
    private static final String[] NOT_ALLOWED = {
        "throw", "try", "catch", "synchronized", "assert", "import", "package", "equals", "hashCode", "volatile", "native",
        "Exact", "NaN", "Random", "System\\.(?!arraycopy)", "->", "::", "float", "double"};

    private static int wrong = 0;

    private static void due(String what, boolean holds) {
        if (!holds) {
            wrong++;
            System.out.println("not so: " + what);
        }
    }

    private static Set<String> pairs(String row) {
        Set<String> pairs = new TreeSet<>();
        String[] words = row.split(" ");
        for (int i = 0; i < words.length; i += 2) {
            pairs.add(words[i] + " " + words[i + 1]);
        }
        return pairs;
    }

    private static void methods() {
        Set<String> seen = new TreeSet<>();
        Set<String> hidden = new TreeSet<>();
        for (Method m : RoofWar.class.getDeclaredMethods()) {
            if (Modifier.isPrivate(m.getModifiers())) {
                hidden.add(m.getName());
                continue;
            }
            boolean ints = m.getReturnType() == int.class && !Modifier.isStatic(m.getModifiers());
            for (Class<?> c : m.getParameterTypes()) {
                ints &= c == int.class;
            }
            due("public, of ints: " + m, ints && Modifier.isPublic(m.getModifiers()));
            seen.add(m.getName() + " " + m.getParameterCount());
        }
        due("the methods of the document and no others: " + seen, seen.equals(pairs(CALLS)));
        for (String call : pairs(CALLS)) {
            due("no private method is called " + call, !hidden.contains(call.split(" ")[0]));
        }
        Constructor<?>[] made = RoofWar.class.getDeclaredConstructors();
        due("one public constructor without arguments",
            made.length == 1 && Modifier.isPublic(made[0].getModifiers()) && made[0].getParameterCount() == 0);
    }

    private static void fields() throws IllegalAccessException {
        Set<String> seen = new TreeSet<>();
        for (Field f : RoofWar.class.getDeclaredFields()) {
            if (!Modifier.isPrivate(f.getModifiers())) {
                due("a constant: " + f, f.getModifiers() == (Modifier.PUBLIC | Modifier.STATIC | Modifier.FINAL));
                seen.add(f.getName() + " " + f.getInt(null));
            }
        }
        due("the constants of the document and no others: " + seen, seen.equals(pairs(CONSTANTS)));
    }

    private static void classes() {
        Class<?>[] inside = RoofWar.class.getDeclaredClasses();
        due("public and final", RoofWar.class.getModifiers() == (Modifier.PUBLIC | Modifier.FINAL));
        due("twelve classes at most", inside.length + 1 <= 12);
        for (Class<?> c : inside) {
            int m = c.getModifiers();
            due("static and not public: " + c, Modifier.isStatic(m) && !Modifier.isPublic(m) && !Modifier.isProtected(m));
            long own = Arrays.stream(c.getDeclaredFields()).filter(f -> !Modifier.isStatic(f.getModifiers())).count();
            due("twenty fields at most: " + c, own <= 20);
            for (Field f : c.getDeclaredFields()) {
                due("static only if final: " + f, !Modifier.isStatic(f.getModifiers()) || Modifier.isFinal(f.getModifiers()));
            }
        }
    }

    private static void letters() throws java.io.IOException {
        String source = new String(Files.readAllBytes(Path.of("src/main/java/RoofWar.java")), StandardCharsets.UTF_8);
        String code = source.replaceAll("(?s)/\\*.*?\\*/", " ").replaceAll("//[^\n]*", " ").replaceAll("\"[^\"\n]*\"", "\"\"");
        for (String word : NOT_ALLOWED) {
            String edge = Character.isLetter(word.charAt(0)) ? "\\b" : "";
            Matcher m = Pattern.compile(edge + word).matcher(code);
            due("no '" + word + "' in the class", !m.find());
        }
        due("signs below 128 alone", source.chars().allMatch(c -> c < 128));
        methodsOf(code);
    }

    /** Methods of sixty lines at most; one that calls itself is private and static. */
    private static void methodsOf(String code) {
        int depth = 0;
        int began = 0;
        String name = "";
        int line = 0;
        for (String row : code.split("\n", -1)) {
            line++;
            if (depth > 0 && row.matches(".*\\) \\{") && row.matches("\\s+((public|private|static) )*[\\w\\[\\]]+ \\w+\\(.*")) {
                began = line;
                name = row.contains(" static ") ? "" : row.replaceAll("\\(.*", "").replaceAll(".* ", "");
            } else if (began > 0 && !name.isEmpty()) {
                due("no method calls itself that is not static: " + name, !row.matches(".*(?<![.\\w])" + name + "\\(.*"));
            }
            for (char c : row.toCharArray()) {
                depth += c == '{' ? 1 : c == '}' ? -1 : 0;
            }
            if (row.matches(" {4}( {4})?\\}") && began > 0) {
                due("sixty lines at most: the method at line " + began, line - began <= 60);
                began = 0;
            }
        }
    }

    public static void main(String[] args) throws Exception {
        methods();
        fields();
        classes();
        letters();
        System.out.println(wrong == 0 ? "the face is as due" : wrong + " things are not so");
        if (wrong != 0) {
            System.exit(1);
        }
    }
}
