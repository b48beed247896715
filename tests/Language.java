import java.lang.reflect.Field;
import java.lang.reflect.Method;
import java.lang.reflect.Modifier;
import java.nio.file.Files;
import java.nio.file.Path;
import java.util.ArrayList;
import java.util.Collections;
import java.util.List;
import java.util.Set;
import java.util.TreeSet;
import java.util.regex.Matcher;
import java.util.regex.Pattern;

/** Those rules of ../shared/LANGUAGE.md that can be seen by a look at the text and at the compiled class. */
public final class Language {
    static int wrong = 0;

    static void must(boolean holds, String what) {
        if (holds) return;
        wrong++;
        System.out.println("against the language: " + what);
    }

    public static void main(String[] args) throws Exception {
        String source = Files.readString(Path.of("src/main/java/LifeNoes.java"));
        theFace(Files.readString(Path.of("../shared/DOC.md")));
        words(source);
        sizes(source);
        System.out.println(wrong == 0 ? "the language is kept" : wrong + " places are against the language");
        if (wrong != 0) System.exit(1);
    }

    /** Rule 1: what is not private is just what the document's face has. */
    static void theFace(String doc) {
        int from = doc.indexOf("```java");
        List<String> want = new ArrayList<>();
        Matcher line = Pattern.compile("public (int|long) (\\w+)\\((.*)\\);").matcher(doc.substring(from, doc.indexOf("```", from + 3)));
        while (line.find()) want.add(line.group(1) + " " + line.group(2) + "(" + line.group(3).replaceAll(" \\w+(, )?", ",").replaceAll(",$", "") + ")");
        List<String> has = new ArrayList<>();
        Set<String> names = new TreeSet<>();
        for (Method m : LifeNoes.class.getDeclaredMethods()) {
            if (Modifier.isPrivate(m.getModifiers()) || m.isSynthetic()) continue;
            names.add(m.getName());
            StringBuilder types = new StringBuilder();
            for (Class<?> type : m.getParameterTypes()) types.append(types.length() == 0 ? "" : ",").append(type.getName());
            has.add(m.getReturnType().getName() + " " + m.getName() + "(" + types + ")");
        }
        Collections.sort(want);
        Collections.sort(has);
        must(want.size() == 42 && want.equals(has), "rule 1, the face is " + has);
        for (Class<?> inner : LifeNoes.class.getDeclaredClasses()) {
            for (Method m : inner.getDeclaredMethods()) must(!names.contains(m.getName()), "rule 1, " + inner + "." + m.getName());
            must(Modifier.isStatic(inner.getModifiers()), "rule 2, " + inner);
            must(inner.getDeclaredFields().length <= 20, "rule 11, fields of " + inner);
        }
        must(LifeNoes.class.getDeclaredClasses().length <= 11, "rule 11, classes");
        for (Method m : LifeNoes.class.getDeclaredMethods()) {
            if (Modifier.isPrivate(m.getModifiers())) must(!names.contains(m.getName()), "rule 1, private " + m.getName());
            must(m.getParameterCount() <= 7, "rule 11, " + m.getName());
        }
        for (Field f : LifeNoes.class.getDeclaredFields()) {
            int is = f.getModifiers();
            boolean constant = Set.of("BAD", "FULL", "NONE", "STATE", "NO").contains(f.getName());
            must(constant ? Modifier.isPublic(is) && Modifier.isStatic(is) && Modifier.isFinal(is) : Modifier.isPrivate(is), "rule 1, " + f);
            must(!Modifier.isStatic(is) || Modifier.isFinal(is), "rule 5, " + f);
        }
    }

    static void words(String source) {
        String bare = source.replaceAll("(?s)/\\*.*?\\*/", "").replaceAll("//[^\n]*", "").replaceAll("'.'|\"[^\"]*\"", "0");
        for (String word : "import package throw throws try catch finally synchronized assert while yield var enum record interface "
            .concat("volatile transient native strictfp double float hashCode equals toString").split(" ")) {
            must(!Pattern.compile("\\b" + word + "\\b").matcher(bare).find(), "the word " + word);
        }
        for (String sign : new String[] {"->", "::", "@", "Exact"}) must(!bare.contains(sign), "rules 2, 4: " + sign);
        Matcher library = Pattern.compile("\\b([A-Z][a-z]\\w*)\\.(\\w+)\\(").matcher(bare);
        Set<String> known = Set.of("System.arraycopy", "Math.max", "Math.min", "Math.abs", "Integer.bitCount", "Village.noesIn");
        while (library.find()) must(known.contains(library.group(1) + "." + library.group(2)), "rule 4, " + library.group());
        // Rule 12: the program makes what it needs once, in constructors and fields.
        Matcher made = Pattern.compile("(?m)^(.*)\\bnew \\w+").matcher(bare);
        while (made.find()) must(made.group().matches(" *(private )?(final )?\\w+[\\[\\]]* (\\w+ )?= new .*|.*(sheets|things)\\[\\w+\\] = new .*"), "rule 12, " + made.group());
        for (int i = 0; i < source.length(); i++) must(source.charAt(i) < 127, "rule 4, a sign at " + i);
    }

    /** Rule 11: methods of some sixty lines at most. */
    static void sizes(String source) {
        String[] lines = source.split("\n");
        int start = -1;
        for (int i = 0; i < lines.length; i++) {
            if (lines[i].matches(" {4,8}[\\w\\[\\]. ]+\\(.*\\) \\{")) start = i;
            if (start >= 0 && lines[i].matches(" {4,8}\\}")) {
                must(i - start < 60, "rule 11, lines from " + (start + 1));
                start = -1;
            }
            must(lines[i].length() <= 120, "a long line " + (i + 1));
        }
    }
}
