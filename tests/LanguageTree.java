import com.sun.source.tree.*;
import com.sun.source.util.JavacTask;
import com.sun.source.util.SourcePositions;
import com.sun.source.util.TreePathScanner;
import com.sun.source.util.Trees;
import java.nio.file.Path;
import java.util.ArrayList;
import java.util.HashMap;
import java.util.LinkedHashMap;
import java.util.LinkedHashSet;
import java.util.List;
import java.util.Map;
import java.util.Set;
import javax.lang.model.element.Element;
import javax.lang.model.element.ElementKind;
import javax.lang.model.element.ExecutableElement;
import javax.lang.model.element.Modifier;
import javax.lang.model.element.TypeElement;
import javax.lang.model.type.TypeKind;
import javax.lang.model.type.TypeMirror;
import javax.lang.model.util.Elements;
import javax.tools.JavaCompiler;
import javax.tools.StandardJavaFileManager;
import javax.tools.ToolProvider;

/** Those rules of ../shared/LANGUAGE.md that are seen in the class as javac reads it: what it calls, how deep, by what loops. */
public final class LanguageTree {
    static final Set<String> LIBRARY = Set.of("java.lang.String.length", "java.lang.String.charAt", "java.lang.System.arraycopy",
        "java.lang.Math.min", "java.lang.Math.max", "java.lang.Math.abs", "java.lang.Integer.bitCount", "java.lang.Object.<init>");
    static final Set<TypeKind> NUMBERS = Set.of(TypeKind.INT, TypeKind.LONG, TypeKind.SHORT, TypeKind.BYTE, TypeKind.CHAR, TypeKind.BOOLEAN);
    static final int MOST_DEEP = 8, MOST_LINES = 60, MOST_PARAMETERS = 7, MOST_FIELDS = 20, MOST_CLASSES = 12;

    static int wrong = 0;
    static Trees trees;
    static Elements elements;
    static CompilationUnitTree unit;
    static final Map<ExecutableElement, Set<ExecutableElement>> calls = new LinkedHashMap<>();
    static final Map<ExecutableElement, Set<ExecutableElement>> superCalls = new LinkedHashMap<>();
    static int classes = 0;

    static void must(boolean holds, String what, Tree where) {
        if (holds) return;
        wrong++;
        long at = trees.getSourcePositions().getStartPosition(unit, where);
        System.out.println("against the language: " + what + ", line " + unit.getLineMap().getLineNumber(at));
    }

    static void must(boolean holds, String what) {
        if (holds) return;
        wrong++;
        System.out.println("against the language: " + what);
    }

    public static void main(String[] args) throws Exception {
        JavaCompiler javac = ToolProvider.getSystemJavaCompiler();
        try (StandardJavaFileManager files = javac.getStandardFileManager(null, null, null)) {
            JavacTask task = (JavacTask) javac.getTask(null, files, null, List.of("-proc:none"), null,
                files.getJavaFileObjects(Path.of("src/main/java/LifeNoes.java")));
            unit = task.parse().iterator().next();
            task.analyze();
            trees = Trees.instance(task);
            elements = task.getElements();
            new Look().scan(unit, null);
            must(unit.getImports().isEmpty() && unit.getPackageName() == null, "rule 4, a package or an import");
            must(unit.getTypeDecls().size() == 1, "rule 1, one class in the file");
            must(classes <= MOST_CLASSES, "rule 11, " + classes + " classes");
            recursions();
            depths();
        }
        System.out.println(wrong == 0 ? "the language's tree is kept" : wrong + " places are against the language");
        if (wrong != 0) System.exit(1);
    }

    static boolean isOurs(Element e) {
        for (Element up = e; up != null; up = up.getEnclosingElement()) {
            if (up.getSimpleName().contentEquals("LifeNoes")) return true;
        }
        return false;
    }

    /** All that the file's text holds, place by place. */
    static final class Look extends TreePathScanner<Void, Void> {
        ExecutableElement in = null;

        TypeMirror type(Tree of) {
            return trees.getTypeMirror(new com.sun.source.util.TreePath(getCurrentPath(), of));
        }

        @Override public Void visitClass(ClassTree c, Void v) {
            classes++;
            TypeElement e = (TypeElement) trees.getElement(getCurrentPath());
            boolean outer = e.getSimpleName().contentEquals("LifeNoes");
            must(outer || e.getEnclosingElement().getKind().isClass(), "rule 2, a local class", c);
            must(outer || e.getModifiers().contains(Modifier.STATIC), "rule 2, an inner class", c);
            must(outer || !e.getModifiers().contains(Modifier.PUBLIC) && !e.getModifiers().contains(Modifier.PROTECTED), "rule 1", c);
            int fields = 0;
            for (Element m : e.getEnclosedElements()) {
                if (m.getKind() == ElementKind.FIELD && !m.getModifiers().contains(Modifier.STATIC)) fields++;
            }
            must(fields <= MOST_FIELDS, "rule 11, " + fields + " fields", c);
            return super.visitClass(c, v);
        }

        @Override public Void visitMethod(MethodTree m, Void v) {
            ExecutableElement before = in;
            in = (ExecutableElement) trees.getElement(getCurrentPath());
            calls.put(in, new LinkedHashSet<>());
            superCalls.put(in, new LinkedHashSet<>());
            must(m.getParameters().size() <= MOST_PARAMETERS, "rule 11, parameters", m);
            SourcePositions at = trees.getSourcePositions();
            if (m.getBody() != null) {
                long lines = unit.getLineMap().getLineNumber(Math.max(0, at.getEndPosition(unit, m)))
                    - unit.getLineMap().getLineNumber(Math.max(0, at.getStartPosition(unit, m)));
                must(lines <= MOST_LINES, "rule 11, " + lines + " lines", m);
            }
            must(m.getThrows().isEmpty(), "rule 6, throws", m);
            super.visitMethod(m, v);
            in = before;
            return null;
        }

        @Override public Void visitVariable(VariableTree x, Void v) {
            Element e = trees.getElement(getCurrentPath());
            mayBe(e.asType(), x);
            boolean isStatic = e.getModifiers().contains(Modifier.STATIC);
            must(!isStatic || e.getModifiers().contains(Modifier.FINAL), "rule 5, a static field that isn't final", x);
            must(!isStatic || NUMBERS.contains(e.asType().getKind()), "rule 5, a static field", x);
            return super.visitVariable(x, v);
        }

        /** Rule 3: numbers, our classes and rows of them, rows of rows of numbers, String. */
        void mayBe(TypeMirror t, Tree where) {
            TypeMirror item = t;
            int dimensions = 0;
            while (item.getKind() == TypeKind.ARRAY) {
                item = ((javax.lang.model.type.ArrayType) item).getComponentType();
                dimensions++;
            }
            boolean number = NUMBERS.contains(item.getKind());
            boolean ours = item instanceof javax.lang.model.type.DeclaredType && isOurs(((javax.lang.model.type.DeclaredType) item).asElement());
            boolean text = item.toString().equals("java.lang.String") && dimensions == 0;
            must(number && dimensions <= 2 || ours && dimensions <= 1 || text, "rule 3, the type " + t, where);
        }

        @Override public Void visitMethodInvocation(MethodInvocationTree call, Void v) {
            ExecutableElement e = (ExecutableElement) trees.getElement(getCurrentPath());
            if (isOurs(e)) {
                boolean isSuper = call.getMethodSelect() instanceof MemberSelectTree
                    && ((MemberSelectTree) call.getMethodSelect()).getExpression().toString().equals("super");
                if (in != null) (isSuper ? superCalls : calls).get(in).add(e);
            } else {
                String name = e.getEnclosingElement() + "." + e.getSimpleName();
                must(LIBRARY.contains(name) || name.endsWith(".<init>"), "rule 4, " + name, call);
            }
            return super.visitMethodInvocation(call, v);
        }

        @Override public Void visitNewClass(NewClassTree n, Void v) {
            must(n.getClassBody() == null, "rule 2, an anonymous class", n);
            must(isOurs(((javax.lang.model.type.DeclaredType) type(n)).asElement()), "rule 4, new " + n.getIdentifier(), n);
            // All is made in constructors and beside fields: no call makes anything.
            must(in == null || in.getKind() == ElementKind.CONSTRUCTOR, "rule 12, made by a call", n);
            return super.visitNewClass(n, v);
        }

        @Override public Void visitNewArray(NewArrayTree n, Void v) {
            must(in == null || in.getKind() == ElementKind.CONSTRUCTOR, "rule 12, made by a call", n);
            return super.visitNewArray(n, v);
        }

        @Override public Void visitBinary(BinaryTree b, Void v) {
            boolean text = isText(type(b.getLeftOperand())) || isText(type(b.getRightOperand()));
            must(!text, "rules 6 and 10, " + b, b);
            return super.visitBinary(b, v);
        }

        boolean isText(TypeMirror t) {
            return t != null && (t.toString().equals("java.lang.String") || t.toString().equals("java.lang.Integer"));
        }

        @Override public Void visitTypeCast(TypeCastTree c, Void v) {
            must(NUMBERS.contains(type(c).getKind()), "rule 6, a cast of a thing", c);
            return super.visitTypeCast(c, v);
        }

        @Override public Void visitForLoop(ForLoopTree f, Void v) {
            String condition = String.valueOf(f.getCondition());
            must(f.getUpdate().size() == 1 && condition.matches("(?s)\\(?[\\w.]+ (<|<=) .*"), "rule 9, the loop " + condition, f);
            return super.visitForLoop(f, v);
        }

        @Override public Void visitWhileLoop(WhileLoopTree w, Void v) {
            must(false, "rule 9, a while without a counter", w);
            return super.visitWhileLoop(w, v);
        }

        @Override public Void visitDoWhileLoop(DoWhileLoopTree w, Void v) {
            must(false, "rule 9, a do without a counter", w);
            return super.visitDoWhileLoop(w, v);
        }

        @Override public Void visitLambdaExpression(LambdaExpressionTree x, Void v) {
            must(false, "rule 2, a lambda", x);
            return super.visitLambdaExpression(x, v);
        }

        @Override public Void visitMemberReference(MemberReferenceTree x, Void v) {
            must(false, "rule 2, a method reference", x);
            return super.visitMemberReference(x, v);
        }

        @Override public Void visitThrow(ThrowTree x, Void v) {
            must(false, "rule 6, throw", x);
            return super.visitThrow(x, v);
        }

        @Override public Void visitTry(TryTree x, Void v) {
            must(false, "rule 6, try", x);
            return super.visitTry(x, v);
        }

        @Override public Void visitAssert(AssertTree x, Void v) {
            must(false, "rule 6, assert", x);
            return super.visitAssert(x, v);
        }

        @Override public Void visitSynchronized(SynchronizedTree x, Void v) {
            must(false, "rule 6, synchronized", x);
            return super.visitSynchronized(x, v);
        }
    }

    /** What may run when a method is called: itself, and whatever overrides it unless super is called. */
    static Set<ExecutableElement> next(ExecutableElement m) {
        Set<ExecutableElement> all = new LinkedHashSet<>(superCalls.get(m));
        for (ExecutableElement called : calls.get(m)) {
            for (ExecutableElement other : calls.keySet()) {
                if (other.equals(called) || elements.overrides(other, called, (TypeElement) other.getEnclosingElement())) all.add(other);
            }
        }
        return all;
    }

    static boolean reaches(ExecutableElement from, ExecutableElement to) {
        Set<ExecutableElement> seen = new LinkedHashSet<>();
        List<ExecutableElement> open = new ArrayList<>(next(from));
        while (!open.isEmpty()) {
            ExecutableElement m = open.remove(open.size() - 1);
            if (seen.add(m)) open.addAll(next(m));
        }
        return seen.contains(to);
    }

    /** Rule 8: what calls itself again is private and carries how deep it goes. */
    static void recursions() {
        for (ExecutableElement m : calls.keySet()) {
            if (!reaches(m, m)) continue;
            must(m.getModifiers().contains(Modifier.PRIVATE), "rule 8, recursion of " + m);
            boolean carries = false;
            for (Element p : m.getParameters()) carries |= p.getSimpleName().contentEquals("n") || p.getSimpleName().contentEquals("k");
            must(carries, "rule 8, no depth is told to " + m);
        }
    }

    /** Rule 11: how many calls stand open at most below one of the face; a recursion counts each of its methods once. */
    static void depths() {
        Map<ExecutableElement, Integer> most = new HashMap<>();
        for (ExecutableElement m : calls.keySet()) {
            if (m.getModifiers().contains(Modifier.PUBLIC)) {
                int deep = deepest(m, new LinkedHashSet<>());
                most.put(m, deep);
                must(deep <= MOST_DEEP, "rule 11, " + m + " goes " + deep + " calls deep");
            }
        }
        must(most.size() == 43, "rule 1, the constructor and 42 methods, not " + most.size());
    }

    static int deepest(ExecutableElement m, Set<ExecutableElement> open) {
        int deep = 0;
        open.add(m);
        for (ExecutableElement n : next(m)) {
            if (!open.contains(n)) deep = Math.max(deep, 1 + deepest(n, open));
        }
        open.remove(m);
        return deep;
    }
}
