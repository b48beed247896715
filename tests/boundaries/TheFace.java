import java.lang.reflect.Constructor;
import java.lang.reflect.Field;
import java.lang.reflect.Method;
import java.lang.reflect.Modifier;
import java.nio.file.Files;
import java.nio.file.Path;
import java.util.ArrayList;
import java.util.List;
import java.util.regex.Matcher;
import java.util.regex.Pattern;

/** The public face, promise by promise: each constant, constructor and method as the document writes it, and no other. */
final class TheFace extends Bounds {
    static void hold(String document) throws Exception {
        String source = Files.readString(Path.of("src/main/java/LifeNoes.java"));
        face(document);
        promises(document);
        parts(document, source);
    }

    static String written(Method m) {
        StringBuilder types = new StringBuilder();
        for (Class<?> type : m.getParameterTypes()) types.append(types.length() == 0 ? "" : ", ").append(type.getName());
        return m.getReturnType().getName() + " " + m.getName() + "(" + types + ")";
    }

    /** A method as the document writes it, without the names of what is told. */
    static String bare(String type, String name, String told) {
        return type + " " + name + "(" + told.replaceAll(" \\w+(?=,|$)", "") + ")";
    }

    static void face(String document) {
        int from = document.indexOf("## The public face"), to = document.indexOf("## Terms");
        sentence(1, document.substring(from, to), () -> {
            List<String> want = new ArrayList<>(), has = new ArrayList<>();
            Matcher line = Pattern.compile("public (int|long) (\\w+)\\((.*?)\\);").matcher(document.substring(from, to));
            while (line.find()) want.add(bare(line.group(1), line.group(2), line.group(3)));
            for (Method m : LifeNoes.class.getDeclaredMethods()) {
                if (!Modifier.isPrivate(m.getModifiers()) && !m.isSynthetic()) {
                    has.add(written(m));
                    due(m.getModifiers(), Modifier.PUBLIC);
                }
            }
            due(want.size(), 42);
            due(has.size(), 42);
            due(want.containsAll(has) && has.containsAll(want) ? 1 : 0, 1);
            Constructor<?>[] makers = LifeNoes.class.getDeclaredConstructors();
            due(makers.length, 1);
            due(makers[0].getParameterCount(), 0);
            due(makers[0].getModifiers(), Modifier.PUBLIC);
            due(LifeNoes.class.getModifiers(), Modifier.PUBLIC | Modifier.FINAL);
            due(LifeNoes.class.getInterfaces().length, 0);
            StringBuilder constants = new StringBuilder();
            for (Field f : LifeNoes.class.getDeclaredFields()) {
                if (!Modifier.isPrivate(f.getModifiers())) {
                    due(f.getModifiers(), Modifier.PUBLIC | Modifier.STATIC | Modifier.FINAL);
                    constants.append(f.getType()).append(' ').append(f.getName()).append(' ');
                }
            }
            due(constants.toString().equals("int BAD int FULL int NONE int STATE long NO ") ? 1 : 0, 1);
            due(LifeNoes.BAD, -1);
            due(LifeNoes.FULL, -2);
            due(LifeNoes.NONE, -3);
            due(LifeNoes.STATE, -4);
            due(LifeNoes.NO, -1000000000000L);
        });
    }

    static void promises(String document) {
        Matcher heading = Pattern.compile("## Promise (\\d+): ([\\w ]+) `((?:int|long) )?(\\w+)\\((.*?)\\)`:").matcher(document);
        int found = 0;
        while (heading.find()) {
            found++;
            int number = found;
            String type = heading.group(3), name = heading.group(4), told = heading.group(5);
            boolean numbered = heading.group(1).equals("" + number);
            sentence(number, heading.group(), () -> {
                due(numbered ? 1 : 0, 1);
                int there = 0;
                for (Method m : LifeNoes.class.getMethods()) {
                    if (type != null && written(m).equals(bare(type.trim(), name, told))) there++;
                }
                due(there, type == null ? 0 : 1);
                if (type == null) due(LifeNoes.class.getName().equals(name) ? 1 : 0, 1);
            });
        }
        if (found != 43) throw new IllegalStateException("the document has other promises: " + found);
    }

    /** The parts of the interface, each with its calls in the document's order below a line of its own. */
    static void parts(String document, String source) {
        Matcher part = Pattern.compile("Ahead of the calls (.*?) the interface says: (---- [a-z ]+)\\.").matcher(document);
        int calls = 0, found = 0;
        while (part.find()) {
            String[] names = part.group(1).replace("`", "").split(", ");
            String line = "// " + part.group(2) + "\n";
            calls += names.length;
            found++;
            sentence(1, part.group(), () -> {
                int at = source.indexOf(line);
                due(at >= 0 ? 1 : 0, 1);
                int next = source.indexOf("// ----", at + 1);
                for (String name : names) {
                    Matcher call = Pattern.compile("\n    public (int|long) " + name + "\\(").matcher(source);
                    int its = call.find() ? call.start() : -1;
                    due(its > at && (its < next || next < 0) ? 1 : 0, 1);
                    at = its;
                }
            });
        }
        if (calls != 42 || found != 6) throw new IllegalStateException("the document has other parts");
    }
}
