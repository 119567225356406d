import com.sun.source.tree.AnnotationTree;
import com.sun.source.tree.AssertTree;
import com.sun.source.tree.BinaryTree;
import com.sun.source.tree.ClassTree;
import com.sun.source.tree.CompilationUnitTree;
import com.sun.source.tree.LambdaExpressionTree;
import com.sun.source.tree.MemberReferenceTree;
import com.sun.source.tree.MethodInvocationTree;
import com.sun.source.tree.MethodTree;
import com.sun.source.tree.NewArrayTree;
import com.sun.source.tree.NewClassTree;
import com.sun.source.tree.SynchronizedTree;
import com.sun.source.tree.ThrowTree;
import com.sun.source.tree.Tree;
import com.sun.source.tree.TryTree;
import com.sun.source.tree.VariableTree;
import com.sun.source.util.JavacTask;
import com.sun.source.util.TreePathScanner;
import com.sun.source.util.Trees;
import java.io.IOException;
import java.nio.file.Path;
import java.util.ArrayList;
import java.util.List;
import java.util.Map;
import java.util.Set;
import java.util.TreeMap;
import java.util.TreeSet;
import javax.lang.model.element.Element;
import javax.lang.model.element.ExecutableElement;
import javax.lang.model.element.Modifier;
import javax.lang.model.element.TypeElement;
import javax.lang.model.type.TypeMirror;
import javax.tools.JavaCompiler;
import javax.tools.StandardJavaFileManager;
import javax.tools.ToolProvider;

/** What javac itself reads in the program: its methods, what they call, make and are made of. */
final class Program extends TreePathScanner<Void, Void> {
    /** Of each method, by class and name, those it calls, the library's left out. */
    final Map<String, Set<String>> calls = new TreeMap<>();
    /** Of each method how many lines and parameters it has. */
    final Map<String, Integer> lines = new TreeMap<>();
    final Map<String, Integer> parameters = new TreeMap<>();
    /** Of each class how many fields it has beside its constants. */
    final Map<String, Integer> fields = new TreeMap<>();
    final Set<String> libraryCalls = new TreeSet<>();
    final Set<String> types = new TreeSet<>();
    final Set<String> staticFields = new TreeSet<>();
    final Set<String> madeInMethods = new TreeSet<>();
    final List<String> ruledOut = new ArrayList<>();

    private final Trees trees;
    private final CompilationUnitTree unit;

    private Program(Trees trees, CompilationUnitTree unit) {
        this.trees = trees;
        this.unit = unit;
    }

    static Program of(Path file) throws IOException {
        JavaCompiler javac = ToolProvider.getSystemJavaCompiler();
        try (StandardJavaFileManager files = javac.getStandardFileManager(null, null, null)) {
            JavacTask task = (JavacTask) javac.getTask(null, files, null, List.of("-proc:none"), null,
                    files.getJavaFileObjects(file));
            CompilationUnitTree unit = task.parse().iterator().next();
            task.analyze();
            Program program = new Program(Trees.instance(task), unit);
            program.scan(unit, null);
            return program;
        }
    }

    private Element element() {
        return trees.getElement(getCurrentPath());
    }

    private static String name(ExecutableElement method) {
        return method.getEnclosingElement() + "." + method.getSimpleName();
    }

    /** The method that what is looked at stands in; null for a field's initialiser. */
    private String inside() {
        for (var path = getCurrentPath(); path != null; path = path.getParentPath()) {
            if (path.getLeaf() instanceof MethodTree) {
                return name((ExecutableElement) trees.getElement(path));
            }
        }
        return null;
    }

    private void ruleOut(String what, Tree tree) {
        long line = unit.getLineMap().getLineNumber(trees.getSourcePositions().getStartPosition(unit, tree));
        ruledOut.add(what + ", line " + line);
    }

    @Override
    public Void visitClass(ClassTree tree, Void p) {
        TypeElement type = (TypeElement) element();
        if (!type.getNestingKind().isNested() || type.getModifiers().contains(Modifier.STATIC)) {
            fields.put(type.toString(), 0);
        } else {
            ruleOut("a class that is not static", tree);
        }
        return super.visitClass(tree, p);
    }

    @Override
    public Void visitMethod(MethodTree tree, Void p) {
        String name = name((ExecutableElement) element());
        var positions = trees.getSourcePositions();
        long first = unit.getLineMap().getLineNumber(Math.max(0, positions.getStartPosition(unit, tree)));
        long last = unit.getLineMap().getLineNumber(Math.max(0, positions.getEndPosition(unit, tree)));
        if (calls.put(name, new TreeSet<>()) != null) {
            ruleOut("two methods of one name: " + name, tree);
        }
        lines.put(name, (int) (last - first + 1));
        parameters.put(name, tree.getParameters().size());
        if (tree.getReturnType() != null) {
            types.add(((ExecutableElement) element()).getReturnType().toString());
        }
        return super.visitMethod(tree, p);
    }

    @Override
    public Void visitVariable(VariableTree tree, Void p) {
        TypeMirror type = trees.getTypeMirror(getCurrentPath());
        types.add(type.toString());
        if (getCurrentPath().getParentPath().getLeaf() instanceof ClassTree) {
            field(tree, type);
        }
        return super.visitVariable(tree, p);
    }

    private void field(VariableTree tree, TypeMirror type) {
        Element of = element();
        if (of.getModifiers().contains(Modifier.STATIC)) {
            staticFields.add(type.toString());
            if (!of.getModifiers().contains(Modifier.FINAL)) {
                ruleOut("a static field that is not final", tree);
            }
        } else {
            fields.merge(of.getEnclosingElement().toString(), 1, Integer::sum);
        }
    }

    @Override
    public Void visitMethodInvocation(MethodInvocationTree tree, Void p) {
        ExecutableElement called = (ExecutableElement) element();
        String name = name(called);
        if (name.startsWith("RocketPrint.")) {
            if (inside() == null) {
                ruleOut("a call in an initialiser", tree);
            } else {
                calls.get(inside()).add(name);
            }
        } else if (!called.getSimpleName().contentEquals("<init>")) {
            libraryCalls.add(name);
        }
        return super.visitMethodInvocation(tree, p);
    }

    @Override
    public Void visitNewClass(NewClassTree tree, Void p) {
        if (tree.getClassBody() != null) {
            ruleOut("an anonymous class", tree);
        }
        if (inside() != null) {
            madeInMethods.add(inside());
        }
        return super.visitNewClass(tree, p);
    }

    @Override
    public Void visitNewArray(NewArrayTree tree, Void p) {
        if (inside() != null) {
            madeInMethods.add(inside());
        }
        return super.visitNewArray(tree, p);
    }

    @Override
    public Void visitBinary(BinaryTree tree, Void p) {
        boolean equality = tree.getKind() == Tree.Kind.EQUAL_TO || tree.getKind() == Tree.Kind.NOT_EQUAL_TO;
        boolean sum = tree.getKind() == Tree.Kind.PLUS;
        if ((equality || sum) && (isText(tree.getLeftOperand()) || isText(tree.getRightOperand()))) {
            ruleOut("texts that are compared or joined by a sign", tree);
        }
        return super.visitBinary(tree, p);
    }

    private boolean isText(Tree tree) {
        TypeMirror type = trees.getTypeMirror(trees.getPath(unit, tree));
        return type != null && type.toString().equals("java.lang.String");
    }

    @Override
    public Void visitLambdaExpression(LambdaExpressionTree tree, Void p) {
        ruleOut("a lambda", tree);
        return super.visitLambdaExpression(tree, p);
    }

    @Override
    public Void visitMemberReference(MemberReferenceTree tree, Void p) {
        ruleOut("a method reference", tree);
        return super.visitMemberReference(tree, p);
    }

    @Override
    public Void visitThrow(ThrowTree tree, Void p) {
        ruleOut("throw", tree);
        return super.visitThrow(tree, p);
    }

    @Override
    public Void visitTry(TryTree tree, Void p) {
        ruleOut("try", tree);
        return super.visitTry(tree, p);
    }

    @Override
    public Void visitSynchronized(SynchronizedTree tree, Void p) {
        ruleOut("synchronized", tree);
        return super.visitSynchronized(tree, p);
    }

    @Override
    public Void visitAssert(AssertTree tree, Void p) {
        ruleOut("assert", tree);
        return super.visitAssert(tree, p);
    }

    @Override
    public Void visitAnnotation(AnnotationTree tree, Void p) {
        ruleOut("an annotation, which is the library's", tree);
        return super.visitAnnotation(tree, p);
    }
}
