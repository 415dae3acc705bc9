import com.sun.source.tree.*;
import com.sun.source.util.JavacTask;
import com.sun.source.util.TreePath;
import com.sun.source.util.TreePathScanner;
import com.sun.source.util.Trees;
import java.io.File;
import java.util.ArrayList;
import java.util.EnumSet;
import java.util.HashMap;
import java.util.HashSet;
import java.util.List;
import java.util.Map;
import java.util.Set;
import java.util.TreeSet;
import javax.lang.model.element.Element;
import javax.lang.model.element.ElementKind;
import javax.lang.model.element.ExecutableElement;
import javax.lang.model.element.Modifier;
import javax.lang.model.element.VariableElement;
import javax.tools.JavaCompiler;
import javax.tools.StandardJavaFileManager;
import javax.tools.ToolProvider;

/** What of ../shared/LANGUAGE.md can be seen in the source: its argument is the file to be looked at. */
public final class LanguageRules extends TreePathScanner<Void, Void> {
    private static final Set<Tree.Kind> REFUSED = EnumSet.of(Tree.Kind.THROW, Tree.Kind.TRY, Tree.Kind.CATCH,
        Tree.Kind.SYNCHRONIZED, Tree.Kind.ASSERT, Tree.Kind.LAMBDA_EXPRESSION, Tree.Kind.MEMBER_REFERENCE,
        Tree.Kind.INSTANCE_OF, Tree.Kind.SWITCH_EXPRESSION, Tree.Kind.TYPE_CAST, Tree.Kind.ANNOTATION);
    private static final Set<String> LIBRARY = Set.of("java.lang.String.length", "java.lang.String.charAt",
        "java.lang.String.isEmpty", "java.lang.Integer.bitCount", "java.lang.Math.abs", "java.lang.Math.max",
        "java.lang.Math.min", "java.lang.System.arraycopy", "java.util.Arrays.fill", "java.lang.Object.<init>");
    private static final Set<String> FACE = Set.of("int land(int,int,int)", "int cost(int,int)", "int house(int)",
        "int farm(int,int)", "int month(int)", "int sign(int,int,int,int)", "int strike(int)",
        "int as(int,int,int)", "int many(int,int,int)", "int tip(int)", "int feed(long,int)", "int text(int)",
        "int force(int,int,int,int)", "int why(int,int,int,int)", "int line(int,int)", "int clear()",
        "int best(int)", "int mile(int)", "int span(int)", "int pole(int)", "int left()", "int next(int,int)",
        "int wire(int)", "int volt(int)", "int lose(int)", "int read(int,int,int)", "int units(int,int)",
        "int bill(int,int)", "int pay(int,int,int)", "int owe(int,int)", "int loan(int,int,int,int,int)",
        "int due(int)", "int cannot()", "int storm(int,int)", "int order(int)", "int fix()",
        "int spite(int,int,int)", "int tried(int)", "int image()", "int undo()", "int count(int)");
    private static final int LINES = 60, PARAMETERS = 7, CLASSES = 12, FIELDS = 20, DEPTH = 8;

    private final Trees trees;
    private final CompilationUnitTree unit;
    private final Set<String> faults = new TreeSet<>();
    private final Set<String> face = new HashSet<>();
    private final Set<String> faceNames = new HashSet<>();
    private final Map<Element, Set<Element>> calls = new HashMap<>();
    private Element method;
    private int classes = 0;

    private LanguageRules(Trees trees, CompilationUnitTree unit) {
        this.trees = trees;
        this.unit = unit;
        for (String f : FACE) faceNames.add(f.substring(4, f.indexOf('(')));
    }

    public static void main(String[] args) throws Exception {
        JavaCompiler compiler = ToolProvider.getSystemJavaCompiler();
        StandardJavaFileManager files = compiler.getStandardFileManager(null, null, null);
        JavacTask task = (JavacTask) compiler.getTask(null, files, null, List.of("-proc:none"), null,
            files.getJavaFileObjects(new File(args[0])));
        CompilationUnitTree unit = task.parse().iterator().next();
        task.analyze();
        LanguageRules rules = new LanguageRules(Trees.instance(task), unit);
        rules.scan(unit, null);
        rules.sumUp();
        for (String fault : rules.faults) System.out.println(fault);
        System.out.println(rules.faults.size() + " places against the language's rules");
        if (!rules.faults.isEmpty()) System.exit(1);
    }

    private void fault(Tree tree, String what) {
        long line = unit.getLineMap().getLineNumber(trees.getSourcePositions().getStartPosition(unit, tree));
        faults.add("line " + line + ": " + what);
    }

    private void sumUp() {
        Set<String> missing = new TreeSet<>(FACE);
        missing.removeAll(face);
        for (String m : missing) faults.add("the face lacks " + m);
        if (classes > CLASSES) faults.add(classes + " classes");
        for (Element m : calls.keySet()) {
            int depth = depth(m, new ArrayList<>());
            if (depth > DEPTH) faults.add(m + " opens calls " + depth + " deep");
        }
    }

    private int depth(Element m, List<Element> open) {
        if (open.contains(m)) {
            faults.add(m + " calls itself");
            return 0;
        }
        open.add(m);
        int most = 0;
        for (Element called : calls.getOrDefault(m, Set.of())) most = Math.max(most, depth(called, open));
        open.remove(m);
        return most + 1;
    }

    @Override public Void scan(Tree tree, Void none) {
        if (tree != null && REFUSED.contains(tree.getKind())) {
            boolean ofNumber = tree instanceof TypeCastTree
                && Set.of("int", "long").contains(((TypeCastTree) tree).getType().toString());
            if (!ofNumber) fault(tree, tree.getKind() + " stands outside the rules");
        }
        return super.scan(tree, none);
    }

    @Override public Void visitImport(ImportTree tree, Void none) {
        String name = tree.getQualifiedIdentifier().toString();
        if (!Set.of("java.util.Arrays", "java.util.List", "java.util.ArrayList").contains(name)) fault(tree, name);
        return super.visitImport(tree, none);
    }

    @Override public Void visitClass(ClassTree tree, Void none) {
        classes++;
        int fields = 0;
        for (Tree member : tree.getMembers()) {
            if (!(member instanceof VariableTree)) continue;
            Set<Modifier> flags = ((VariableTree) member).getModifiers().getFlags();
            if (!flags.contains(Modifier.STATIC)) fields++;
            else if (!flags.contains(Modifier.FINAL)) fault(member, "a static field that is not final");
        }
        if (fields > FIELDS) fault(tree, fields + " fields");
        boolean nested = getCurrentPath().getParentPath().getLeaf() instanceof ClassTree;
        if (nested && !tree.getModifiers().getFlags().contains(Modifier.STATIC)) fault(tree, "an inner class");
        if (!nested) outside(tree);
        return super.visitClass(tree, none);
    }

    /** The public class itself: nothing but its face may be seen from outside. */
    private void outside(ClassTree tree) {
        if (!tree.getModifiers().getFlags().containsAll(Set.of(Modifier.PUBLIC, Modifier.FINAL))) fault(tree, "class");
        for (Tree member : tree.getMembers()) {
            Element e = trees.getElement(new TreePath(getCurrentPath(), member));
            if (e.getKind() == ElementKind.CLASS || e.getModifiers().contains(Modifier.PRIVATE)) continue;
            if (e instanceof VariableElement) {
                if (!Set.of("NONE", "BAD", "STATE", "FULL").contains(e.getSimpleName().toString())) fault(member, "" + e);
            } else if (e.getKind() == ElementKind.METHOD) {
                String text = ((ExecutableElement) e).getReturnType() + " " + e;
                face.add(text);
                if (!FACE.contains(text)) fault(member, text + " is not of the face");
            }
        }
    }

    @Override public Void visitMethod(MethodTree tree, Void none) {
        Element was = method;
        method = trees.getElement(getCurrentPath());
        calls.putIfAbsent(method, new HashSet<>());
        long from = unit.getLineMap().getLineNumber(trees.getSourcePositions().getStartPosition(unit, tree));
        long to = unit.getLineMap().getLineNumber(trees.getSourcePositions().getEndPosition(unit, tree));
        if (to - from >= LINES) fault(tree, tree.getName() + " has " + (to - from + 1) + " lines");
        if (tree.getParameters().size() > PARAMETERS) fault(tree, tree.getName() + " takes too much");
        boolean seen = method.getModifiers().contains(Modifier.PUBLIC);
        if (!seen && faceNames.contains(tree.getName().toString())) fault(tree, tree.getName() + " is a name of the face");
        super.visitMethod(tree, none);
        method = was;
        return null;
    }

    @Override public Void visitMethodInvocation(MethodInvocationTree tree, Void none) {
        called(trees.getElement(getCurrentPath()), tree);
        return super.visitMethodInvocation(tree, none);
    }

    @Override public Void visitNewClass(NewClassTree tree, Void none) {
        if (method != null && method.getKind() == ElementKind.METHOD) fault(tree, "an object made by a call");
        return super.visitNewClass(tree, none);
    }

    @Override public Void visitNewArray(NewArrayTree tree, Void none) {
        if (method != null && method.getKind() == ElementKind.METHOD) fault(tree, "an array made by a call");
        return super.visitNewArray(tree, none);
    }

    private void called(Element e, Tree tree) {
        String owner = e.getEnclosingElement().toString();
        if (owner.startsWith("CurrentFarms")) {
            if (method != null) calls.get(method).add(e);
        } else if (!LIBRARY.contains(owner + "." + e.getSimpleName())) {
            fault(tree, owner + "." + e.getSimpleName() + " is not of the library");
        }
    }

    /** Array elements are used by at() and put() alone, which look at the index. */
    @Override public Void visitArrayAccess(ArrayAccessTree tree, Void none) {
        String in = method == null ? "" : method.getSimpleName().toString();
        if (!in.equals("at") && !in.equals("put")) fault(tree, "an index outside at() and put()");
        return super.visitArrayAccess(tree, none);
    }

    /** What is no constant divides in parted() alone, which looks at the divisor. */
    @Override public Void visitBinary(BinaryTree tree, Void none) {
        boolean divides = tree.getKind() == Tree.Kind.DIVIDE || tree.getKind() == Tree.Kind.REMAINDER;
        if (divides && !isConstant(tree.getRightOperand()) && !method.getSimpleName().contentEquals("parted")) {
            fault(tree, "a divisor outside parted()");
        }
        return super.visitBinary(tree, none);
    }

    private boolean isConstant(ExpressionTree tree) {
        if (tree instanceof LiteralTree) return true;
        Element e = trees.getElement(new TreePath(getCurrentPath(), tree));
        return e instanceof VariableElement && ((VariableElement) e).getConstantValue() != null;
    }
}
