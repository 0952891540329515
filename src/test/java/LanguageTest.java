import com.sun.source.tree.BinaryTree;
import com.sun.source.tree.BlockTree;
import com.sun.source.tree.ClassTree;
import com.sun.source.tree.CompilationUnitTree;
import com.sun.source.tree.CompoundAssignmentTree;
import com.sun.source.tree.MethodInvocationTree;
import com.sun.source.tree.MethodTree;
import com.sun.source.tree.NewArrayTree;
import com.sun.source.tree.NewClassTree;
import com.sun.source.tree.Tree;
import com.sun.source.tree.VariableTree;
import com.sun.source.util.JavacTask;
import com.sun.source.util.SourcePositions;
import com.sun.source.util.TreePath;
import com.sun.source.util.TreePathScanner;
import com.sun.source.util.Trees;
import java.nio.file.Files;
import java.nio.file.Path;
import java.util.HashMap;
import java.util.HashSet;
import java.util.List;
import java.util.Map;
import java.util.Set;
import javax.lang.model.element.Element;
import javax.lang.model.element.ElementKind;
import javax.lang.model.element.Modifier;
import javax.lang.model.type.ArrayType;
import javax.lang.model.type.TypeKind;
import javax.lang.model.type.TypeMirror;
import javax.tools.JavaCompiler;
import javax.tools.StandardJavaFileManager;
import javax.tools.ToolProvider;

/**
 * The rules of LANGUAGE.md that can be seen in the source, looked up in the compiler's own tree of it. Where the
 * class keeps to less than a rule leaves (no call makes an object, no method calls itself), less is asked here.
 */
public final class LanguageTest extends TreePathScanner<Void, Void> {
    private static final int PARAMETERS = 7, LINES = 60, DEPTH = 8, CLASSES = 12, FIELDS = 20;
    private static final Set<String> LIBRARY = Set.of("String.length", "String.charAt", "Math.abs", "Math.max",
            "Math.min", "Math.floorDiv", "Integer.bitCount", "Long.bitCount", "System.arraycopy");
    private static final Set<TypeKind> CONSTANTS = Set.of(TypeKind.INT, TypeKind.LONG, TypeKind.BOOLEAN, TypeKind.CHAR);
    private static final Set<TypeKind> ROWS = Set.of(TypeKind.INT, TypeKind.LONG, TypeKind.CHAR, TypeKind.BYTE);
    private static final Set<Tree.Kind> RULED_OUT = Set.of(Tree.Kind.THROW, Tree.Kind.TRY, Tree.Kind.CATCH,
            Tree.Kind.SYNCHRONIZED, Tree.Kind.ASSERT, Tree.Kind.LAMBDA_EXPRESSION, Tree.Kind.MEMBER_REFERENCE,
            Tree.Kind.IMPORT, Tree.Kind.PACKAGE, Tree.Kind.INSTANCE_OF);

    private final Trees trees;
    private final CompilationUnitTree unit;
    private final Set<String> face = new HashSet<>();
    private final Map<Element, Set<Element>> called = new HashMap<>();
    private final Map<Element, Integer> depths = new HashMap<>();
    private Element method;
    private int classes = 0;
    private int wrong = 0;

    private LanguageTest(Trees trees, CompilationUnitTree unit) {
        this.trees = trees;
        this.unit = unit;
    }

    public static void main(String[] args) throws Exception {
        Path source = Path.of(args.length > 0 ? args[0] : "src/main/java/HandsPicture.java");
        JavaCompiler compiler = ToolProvider.getSystemJavaCompiler();
        StandardJavaFileManager files = compiler.getStandardFileManager(null, null, null);
        List<String> options = List.of("-proc:none");
        JavacTask task = (JavacTask) compiler.getTask(null, files, null, options, null, files.getJavaFileObjects(source));
        CompilationUnitTree unit = task.parse().iterator().next();
        task.analyze();
        LanguageTest test = new LanguageTest(Trees.instance(task), unit);
        test.need(Files.readString(source).matches("[\\n -~]*"), "3, 4: signs beyond 126, or tabs");
        test.gatherFace();
        test.scan(unit, null);
        test.checkCalls();
        test.need(test.classes > 0 && test.classes <= CLASSES, "11: " + test.classes + " classes");
        System.out.println("LanguageTest: " + test.wrong + " faults in " + test.called.size() + " methods");
        if (test.wrong > 0 || test.called.isEmpty()) System.exit(1);
    }

    private void need(boolean holds, String what) {
        if (!holds) {
            wrong++;
            System.out.println("rule " + what);
        }
    }

    private Element here() {
        return trees.getElement(getCurrentPath());
    }

    private long lineOf(long place) {
        return unit.getLineMap().getLineNumber(place);
    }

    private String place(Tree tree) {
        return " at line " + lineOf(trees.getSourcePositions().getStartPosition(unit, tree));
    }

    private void gatherFace() {
        Element outer = trees.getElement(new TreePath(new TreePath(unit), unit.getTypeDecls().get(0)));
        for (Element member : outer.getEnclosedElements()) {
            boolean isOpen = member.getModifiers().contains(Modifier.PUBLIC);
            if (isOpen && member.getKind() == ElementKind.METHOD) face.add(member.getSimpleName().toString());
        }
    }

    @Override
    public Void scan(Tree tree, Void nothing) {
        if (tree != null) need(!RULED_OUT.contains(tree.getKind()), "2, 6: " + tree.getKind() + place(tree));
        return super.scan(tree, nothing);
    }

    @Override
    public Void visitClass(ClassTree tree, Void nothing) {
        classes++;
        Element it = here();
        boolean isOuter = getCurrentPath().getParentPath().getLeaf() == unit;
        need(isOuter || it.getModifiers().contains(Modifier.STATIC), "2: a class that isn't static" + place(tree));
        need(isOuter || !it.getModifiers().contains(Modifier.PUBLIC), "1: a public class inside" + place(tree));
        need(isOuter || !it.getModifiers().contains(Modifier.PROTECTED), "1: a protected class inside" + place(tree));
        need(isOuter || it.getEnclosingElement().getKind().isClass(), "2: a class in a method" + place(tree));
        int fields = 0;
        for (Element member : it.getEnclosedElements()) {
            boolean isStatic = member.getModifiers().contains(Modifier.STATIC);
            if (member.getKind() == ElementKind.FIELD && !isStatic) fields++;
            boolean isHidden = member.getKind() == ElementKind.METHOD && !member.getModifiers().contains(Modifier.PUBLIC);
            need(!isHidden || !face.contains(member.getSimpleName().toString()), "1: " + member + " is a name of the face");
        }
        need(fields <= FIELDS, "11: " + fields + " fields" + place(tree));
        return super.visitClass(tree, nothing);
    }

    @Override
    public Void visitMethod(MethodTree tree, Void nothing) {
        Element before = method;
        method = here();
        called.put(method, new HashSet<>());
        SourcePositions places = trees.getSourcePositions();
        long lines = lineOf(places.getEndPosition(unit, tree)) - lineOf(places.getStartPosition(unit, tree)) + 1;
        need(lines <= LINES, "11: " + lines + " lines of " + method);
        need(tree.getParameters().size() <= PARAMETERS, "11: parameters of " + method);
        if (tree.getReturnType() != null) needType(typeOf(tree.getReturnType()), place(tree));
        super.visitMethod(tree, nothing);
        method = before;
        return null;
    }

    @Override
    public Void visitBlock(BlockTree tree, Void nothing) {
        need(!tree.isStatic(), "5: a static block" + place(tree));
        return super.visitBlock(tree, nothing);
    }

    private TypeMirror typeOf(Tree tree) {
        return trees.getTypeMirror(new TreePath(getCurrentPath(), tree));
    }

    /** Rule 3, as far as this class goes: numbers, texts, its own classes, and rows of numbers or of these. */
    private void needType(TypeMirror type, String where) {
        TypeMirror inner = type;
        int deep = 0;
        while (inner instanceof ArrayType row) {
            inner = row.getComponentType();
            deep++;
        }
        boolean isOwn = inner.toString().startsWith("HandsPicture");
        boolean isKnown = inner.getKind().isPrimitive() || inner.getKind() == TypeKind.VOID || isOwn
                || deep == 0 && inner.toString().equals("java.lang.String");
        need(isKnown && deep <= (inner.getKind().isPrimitive() ? 2 : 1), "3: " + type + where);
    }

    @Override
    public Void visitVariable(VariableTree tree, Void nothing) {
        Element it = here();
        needType(it.asType(), place(tree));
        if (it.getKind() == ElementKind.FIELD && it.getModifiers().contains(Modifier.STATIC)) {
            needConstant(tree, it);
        }
        return super.visitVariable(tree, nothing);
    }

    private void needConstant(VariableTree tree, Element it) {
        boolean isRow = it.asType() instanceof ArrayType row && ROWS.contains(row.getComponentType().getKind())
                && tree.getInitializer() instanceof NewArrayTree written && written.getInitializers() != null;
        boolean isText = it.asType().toString().equals("java.lang.String");
        need(it.getModifiers().contains(Modifier.FINAL), "5: " + it + " is not final");
        need(isRow || isText || CONSTANTS.contains(it.asType().getKind()), "5: " + it + place(tree));
    }

    @Override
    public Void visitNewClass(NewClassTree tree, Void nothing) {
        need(tree.getClassBody() == null, "2: an anonymous class" + place(tree));
        need(method == null, "12: a call makes an object" + place(tree));
        return super.visitNewClass(tree, nothing);
    }

    @Override
    public Void visitNewArray(NewArrayTree tree, Void nothing) {
        need(method == null, "12: a call makes a row" + place(tree));
        return super.visitNewArray(tree, nothing);
    }

    @Override
    public Void visitMethodInvocation(MethodInvocationTree tree, Void nothing) {
        Element target = trees.getElement(getCurrentPath());
        Element owner = target.getEnclosingElement();
        boolean isOwn = owner.toString().startsWith("HandsPicture");
        boolean isSuper = target.getKind() == ElementKind.CONSTRUCTOR;
        String name = owner.getSimpleName() + "." + target.getSimpleName();
        need(isOwn || isSuper || LIBRARY.contains(name), "4: " + name + place(tree));
        if (method != null) called.get(method).add(target);
        return super.visitMethodInvocation(tree, nothing);
    }

    @Override
    public Void visitBinary(BinaryTree tree, Void nothing) {
        boolean compares = tree.getKind() == Tree.Kind.EQUAL_TO || tree.getKind() == Tree.Kind.NOT_EQUAL_TO;
        boolean ofText = isText(tree.getLeftOperand()) || isText(tree.getRightOperand());
        need(!ofText, (compares ? "6: texts compared" : "10: texts joined by +") + place(tree));
        return super.visitBinary(tree, nothing);
    }

    @Override
    public Void visitCompoundAssignment(CompoundAssignmentTree tree, Void nothing) {
        need(!isText(tree.getVariable()), "10: texts joined by +=" + place(tree));
        return super.visitCompoundAssignment(tree, nothing);
    }

    private boolean isText(Tree tree) {
        TypeMirror type = typeOf(tree);
        return type != null && type.toString().equals("java.lang.String");
    }

    /** How many calls stand open at once, the library's with them. */
    private int depthOf(Element it, Set<Element> open) {
        if (depths.containsKey(it)) return depths.get(it);
        open.add(it);
        int deepest = 0;
        for (Element next : called.getOrDefault(it, Set.of())) {
            need(!open.contains(next), "8: " + next + " calls itself");
            if (!open.contains(next)) deepest = Math.max(deepest, depthOf(next, open));
        }
        open.remove(it);
        depths.put(it, deepest + 1);
        return deepest + 1;
    }

    private void checkCalls() {
        for (Element it : called.keySet()) {
            int depth = depthOf(it, new HashSet<>());
            need(depth <= DEPTH, "11: " + it + " goes " + depth + " calls deep");
            boolean isAsked = face.contains(it.getSimpleName().toString()) || it.getKind() == ElementKind.CONSTRUCTOR;
            need(isAsked || isCalled(it), "(none): " + it + " is never called");
        }
    }

    private boolean isCalled(Element it) {
        for (Set<Element> some : called.values()) if (some.contains(it)) return true;
        return false;
    }
}
