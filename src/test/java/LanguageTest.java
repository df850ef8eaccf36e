import com.sun.source.tree.AssertTree;
import com.sun.source.tree.BinaryTree;
import com.sun.source.tree.ClassTree;
import com.sun.source.tree.CompilationUnitTree;
import com.sun.source.tree.CompoundAssignmentTree;
import com.sun.source.tree.ImportTree;
import com.sun.source.tree.LambdaExpressionTree;
import com.sun.source.tree.MemberReferenceTree;
import com.sun.source.tree.MethodInvocationTree;
import com.sun.source.tree.MethodTree;
import com.sun.source.tree.NewClassTree;
import com.sun.source.tree.SynchronizedTree;
import com.sun.source.tree.ThrowTree;
import com.sun.source.tree.TryTree;
import com.sun.source.tree.VariableTree;
import com.sun.source.util.JavacTask;
import com.sun.source.util.TreePath;
import com.sun.source.util.TreePathScanner;
import com.sun.source.util.Trees;
import java.io.File;
import java.util.HashMap;
import java.util.HashSet;
import java.util.List;
import java.util.Map;
import java.util.Set;
import java.util.TreeSet;
import javax.lang.model.element.Element;
import javax.lang.model.element.ElementKind;
import javax.lang.model.element.Modifier;
import javax.tools.JavaCompiler;
import javax.tools.StandardJavaFileManager;
import javax.tools.ToolProvider;

/** The rules of LANGUAGE.md that can be read off PotBook.java: form, library, lengths, depth of calls. */
public final class LanguageTest extends TreePathScanner<Void, Void> {
    /** Classes of rule 4 of which calls are fine, and of the others the calls that are. */
    private static final Set<String> CLASSES = Set.of("java.lang.StringBuilder", "java.util.ArrayList", "java.util.List",
            "java.util.Iterator", "java.lang.Iterable", "java.lang.Integer", "java.lang.Long", "java.lang.Math", "java.lang.Object");
    private static final Set<String> CALLS = Set.of("String.length", "String.charAt", "String.isEmpty", "String.equals",
            "String.indexOf", "String.substring", "String.toCharArray", "String.<init>", "System.arraycopy", "Arrays.copyOf",
            "Arrays.copyOfRange", "Arrays.fill", "Comparable.compareTo", "Enum.ordinal", "Enum.<init>", "Record.<init>");
    private static final Set<String> THROWN = Set.of("IllegalStateException", "IllegalArgumentException",
            "IndexOutOfBoundsException", "ArithmeticException", "UnsupportedOperationException", "NoSuchElementException",
            "RuntimeException");
    private static final Set<String> IMPORTS = Set.of("NoSuchElementException", "ArrayList", "List", "Arrays", "Iterator");

    private final Trees trees;
    private final CompilationUnitTree unit;
    private final Map<Element, Set<Element>> calls = new HashMap<>();
    private final Set<String> faceNames = new TreeSet<>();
    private final Set<String> otherNames = new TreeSet<>();
    private int classes;

    private LanguageTest(Trees trees, CompilationUnitTree unit) {
        this.trees = trees;
        this.unit = unit;
    }

    private void rule(int number, boolean kept, String what) {
        Due.is("rule " + number + ": " + what, kept, true);
    }

    private long line(com.sun.source.tree.Tree t, boolean end) {
        long at = end ? trees.getSourcePositions().getEndPosition(unit, t) : trees.getSourcePositions().getStartPosition(unit, t);
        return unit.getLineMap().getLineNumber(at);
    }

    private Element method() {
        for (TreePath p = getCurrentPath(); p != null; p = p.getParentPath()) {
            if (p.getLeaf() instanceof MethodTree) {
                return trees.getElement(p);
            }
        }
        return null;
    }

    @Override
    public Void visitImport(ImportTree t, Void v) {
        String name = t.getQualifiedIdentifier().toString();
        rule(4, IMPORTS.contains(name.substring(name.lastIndexOf('.') + 1)), t.toString());
        return super.visitImport(t, v);
    }

    @Override
    public Void visitClass(ClassTree t, Void v) {
        classes++;
        int fields = 0;
        Set<Modifier> mods = t.getModifiers().getFlags();
        boolean face = t.getSimpleName().contentEquals("PotBook");
        rule(1, face || !mods.contains(Modifier.PUBLIC) && !mods.contains(Modifier.PROTECTED), t.getSimpleName() + " is not open");
        for (com.sun.source.tree.Tree m : t.getMembers()) {
            if (m instanceof VariableTree field) {
                Set<Modifier> f = field.getModifiers().getFlags();
                fields += f.contains(Modifier.STATIC) ? 0 : 1;
                rule(5, !f.contains(Modifier.STATIC) || f.contains(Modifier.FINAL), field.getName() + " is final");
                rule(1, f.contains(Modifier.PRIVATE) || !face || f.contains(Modifier.PUBLIC), field.getName() + " is of the face");
            }
            rule(5, !(m instanceof com.sun.source.tree.BlockTree b && b.isStatic()), "no static initialiser block");
        }
        rule(11, fields <= 22, t.getSimpleName() + " has " + fields + " fields");
        return super.visitClass(t, v);
    }

    @Override
    public Void visitMethod(MethodTree t, Void v) {
        long lines = line(t, true) - line(t, false) + 1;
        rule(11, lines <= 65, t.getName() + " has " + lines + " lines");
        rule(11, t.getParameters().size() <= 7, t.getName() + " has few parameters");
        boolean isPublic = t.getModifiers().getFlags().contains(Modifier.PUBLIC);
        if (!t.getName().contentEquals("<init>")) {
            if (isPublic) {
                faceNames.add(t.getName().toString());
            } else if (t.getModifiers().getFlags().contains(Modifier.PRIVATE)) {
                otherNames.add(t.getName().toString());
            }
        }
        calls.computeIfAbsent(trees.getElement(getCurrentPath()), k -> new HashSet<>());
        return super.visitMethod(t, v);
    }

    private void used(Element e) {
        String name = e.getEnclosingElement() + "." + e.getSimpleName();
        if (name.startsWith("PotBook")) {
            if (method() != null) {
                calls.computeIfAbsent(method(), k -> new HashSet<>()).add(e);
            }
        } else {
            Element of = e.getEnclosingElement();
            boolean isThrown = THROWN.contains(of.getSimpleName().toString()) && name.endsWith("<init>");
            boolean isExact = name.endsWith("Exact");
            String call = of.getSimpleName() + "." + e.getSimpleName();
            rule(4, (isThrown || CLASSES.contains(of.toString()) || CALLS.contains(call)) && !isExact, name);
        }
    }

    @Override
    public Void visitMethodInvocation(MethodInvocationTree t, Void v) {
        used(trees.getElement(getCurrentPath()));
        return super.visitMethodInvocation(t, v);
    }

    @Override
    public Void visitNewClass(NewClassTree t, Void v) {
        used(trees.getElement(getCurrentPath()));
        return super.visitNewClass(t, v);
    }

    @Override
    public Void visitLambdaExpression(LambdaExpressionTree t, Void v) {
        rule(2, false, "no lambda");
        return null;
    }

    @Override
    public Void visitMemberReference(MemberReferenceTree t, Void v) {
        rule(2, false, "no method reference");
        return null;
    }

    @Override
    public Void visitAssert(AssertTree t, Void v) {
        rule(6, false, "no assert");
        return null;
    }

    @Override
    public Void visitSynchronized(SynchronizedTree t, Void v) {
        rule(6, false, "no synchronized");
        return null;
    }

    @Override
    public Void visitTry(TryTree t, Void v) {
        rule(6, t.getFinallyBlock() == null && t.getResources().isEmpty(), "no finally, no resources");
        return super.visitTry(t, v);
    }

    @Override
    public Void visitThrow(ThrowTree t, Void v) {
        rule(6, t.getExpression() instanceof NewClassTree made && THROWN.contains(made.getIdentifier().toString()), t.toString());
        rule(6, method() != null && method().getKind() != ElementKind.CONSTRUCTOR, "no throw in a constructor");
        return super.visitThrow(t, v);
    }

    @Override
    public Void visitBinary(BinaryTree t, Void v) {
        boolean text = trees.getTypeMirror(getCurrentPath()).toString().equals("java.lang.String");
        rule(10, !text, "no texts joined by +: " + t);
        return super.visitBinary(t, v);
    }

    @Override
    public Void visitCompoundAssignment(CompoundAssignmentTree t, Void v) {
        rule(10, !trees.getTypeMirror(getCurrentPath()).toString().equals("java.lang.String"), "no texts joined by +=");
        return super.visitCompoundAssignment(t, v);
    }

    /** Whether a method comes back to itself over others. */
    private boolean reaches(Element from, Element to, Set<Element> seen) {
        for (Element next : calls.getOrDefault(from, Set.of())) {
            if (next.equals(to) || seen.add(next) && reaches(next, to, seen)) {
                return true;
            }
        }
        return false;
    }

    /** The longest chain of calls from a method on; those that call one another count once together. */
    private int depth(Element from) {
        int below = 0;
        Set<Element> ring = new HashSet<>(Set.of(from));
        for (Element e : calls.keySet()) {
            if (reaches(from, e, new HashSet<>()) && reaches(e, from, new HashSet<>())) {
                ring.add(e);
            }
        }
        for (Element e : ring) {
            for (Element next : calls.getOrDefault(e, Set.of())) {
                if (!ring.contains(next)) {
                    below = Math.max(below, depth(next));
                }
            }
        }
        return below + 1;
    }

    private void close() {
        rule(11, classes <= 13, classes + " classes");
        for (String name : otherNames) {
            rule(1, !faceNames.contains(name), name + " is no name of the face");
        }
        rule(1, faceNames.size() == 54, faceNames.size() + " methods of the face");
        for (Element e : calls.keySet()) {
            if (e.getModifiers().contains(Modifier.PUBLIC)) {
                int deep = depth(e);
                rule(11, deep <= 8, e.getSimpleName() + " goes " + deep + " deep");
            }
        }
    }

    public static void main(String[] args) throws Exception {
        JavaCompiler compiler = ToolProvider.getSystemJavaCompiler();
        try (StandardJavaFileManager files = compiler.getStandardFileManager(null, null, null)) {
            JavacTask task = (JavacTask) compiler.getTask(null, files, null, List.of("-proc:none"), null,
                    files.getJavaFileObjects(new File("src/main/java/PotBook.java")));
            CompilationUnitTree unit = task.parse().iterator().next();
            task.analyze();
            LanguageTest test = new LanguageTest(Trees.instance(task), unit);
            test.scan(unit, null);
            test.close();
        }
        Due.close("LanguageTest");
    }
}
