import com.sun.source.tree.*;
import com.sun.source.util.JavacTask;
import com.sun.source.util.TreePath;
import com.sun.source.util.TreePathScanner;
import com.sun.source.util.Trees;
import java.io.IOException;
import java.nio.file.Path;
import java.util.ArrayList;
import java.util.HashMap;
import java.util.HashSet;
import java.util.List;
import java.util.Map;
import java.util.Set;
import javax.lang.model.element.Element;
import javax.lang.model.element.ElementKind;
import javax.lang.model.element.ExecutableElement;
import javax.lang.model.element.Modifier;
import javax.lang.model.element.TypeElement;
import javax.lang.model.type.TypeKind;
import javax.lang.model.type.TypeMirror;
import javax.tools.JavaCompiler;
import javax.tools.StandardJavaFileManager;
import javax.tools.ToolProvider;

/** What of rules 2 to 11 of LANGUAGE.md can be seen in the program's syntax tree with its types. */
public final class LanguageTest extends TreePathScanner<Void, Void> {
    private static final Checks CHECKS = new Checks("LanguageTest");
    private static final Path SOURCE = Path.of("src/main/java/BridgeClub.java");
    private static final int DEEPEST = 8;

    /** Rules 2 and 6: what must not stand anywhere. */
    private static final Set<Tree.Kind> FORBIDDEN = Set.of(
            Tree.Kind.LAMBDA_EXPRESSION, Tree.Kind.MEMBER_REFERENCE, Tree.Kind.THROW, Tree.Kind.TRY, Tree.Kind.CATCH,
            Tree.Kind.SYNCHRONIZED, Tree.Kind.ASSERT, Tree.Kind.IMPORT, Tree.Kind.PACKAGE, Tree.Kind.ANNOTATION);
    private static final Set<String> NUMBERS =
            Set.of("int", "long", "short", "byte", "char", "boolean", "double", "float");
    private static final Set<String> LIBRARY_TYPES = Set.of("java.lang.String", "java.lang.StringBuilder");
    /** Rule 4, as far as this program goes: what is used beyond it must be looked up there first. */
    private static final Set<String> LIBRARY_CALLS = Set.of(
            "String.length", "String.charAt", "StringBuilder.<init>", "StringBuilder.append",
            "StringBuilder.charAt", "StringBuilder.setLength", "StringBuilder.length", "Math.abs", "Math.floorMod",
            "Math.max", "Math.min", "Long.bitCount", "Object.<init>");
    private static final Set<String> STATIC_TYPES = Set.of(
            "int", "long", "boolean", "char", "java.lang.String", "int[]", "long[]", "char[]", "byte[]");

    private final Trees trees;
    private final Map<Element, Set<Element>> callsOf = new HashMap<>();

    private LanguageTest(Trees trees) {
        this.trees = trees;
    }

    public static void main(String[] args) throws IOException {
        JavaCompiler compiler = ToolProvider.getSystemJavaCompiler();
        try (StandardJavaFileManager files = compiler.getStandardFileManager(null, null, null)) {
            JavacTask task = (JavacTask) compiler.getTask(
                    null, files, null, List.of("-proc:none"), null, files.getJavaFileObjects(SOURCE));
            List<CompilationUnitTree> units = new ArrayList<>();
            task.parse().forEach(units::add);
            task.analyze();
            LanguageTest test = new LanguageTest(Trees.instance(task));
            for (CompilationUnitTree unit : units) {
                test.scan(unit, null);
            }
            test.depths();
        }
        CHECKS.end();
    }

    private static void rule(int number, String what, boolean isKept) {
        CHECKS.yes("rule " + number + ": " + what, isKept);
    }

    @Override
    public Void scan(Tree tree, Void unused) {
        if (tree != null) {
            rule(6, tree.getKind() + " " + tree, !FORBIDDEN.contains(tree.getKind()));
        }
        return super.scan(tree, unused);
    }

    private Element elementOf(Tree tree) {
        return trees.getElement(new TreePath(getCurrentPath(), tree));
    }

    private TypeMirror typeOf(Tree tree) {
        return trees.getTypeMirror(new TreePath(getCurrentPath(), tree));
    }

    private Element enclosingMethod() {
        for (TreePath at = getCurrentPath(); at != null; at = at.getParentPath()) {
            if (at.getLeaf().getKind() == Tree.Kind.METHOD) {
                return trees.getElement(at);
            }
        }
        return null;
    }

    private static boolean isOwn(String type) {
        return type.equals("BridgeClub") || type.startsWith("BridgeClub.");
    }

    private static boolean isAllowedType(String type) {
        String of = type.replace("[]", "");
        int dimensions = (type.length() - of.length()) / 2;
        if (NUMBERS.contains(of)) {
            return dimensions <= 2;
        }
        return isOwn(of) ? dimensions <= 1 : LIBRARY_TYPES.contains(of) && dimensions == 0;
    }

    // ---- classes, variables and methods

    @Override
    public Void visitClass(ClassTree tree, Void unused) {
        TypeElement element = (TypeElement) trees.getElement(getCurrentPath());
        boolean isInside = element.getNestingKind().isNested();
        rule(2, "a class with a name, not local: " + tree.getSimpleName(), !tree.getSimpleName().isEmpty()
                && getCurrentPath().getParentPath().getLeaf().getKind() != Tree.Kind.BLOCK);
        rule(2, "static: " + element, !isInside || element.getModifiers().contains(Modifier.STATIC));
        for (Tree member : tree.getMembers()) {
            rule(5, "no initialiser block in " + element, member.getKind() != Tree.Kind.BLOCK);
        }
        return super.visitClass(tree, unused);
    }

    @Override
    public Void visitVariable(VariableTree tree, Void unused) {
        Element element = trees.getElement(getCurrentPath());
        String type = element.asType().toString();
        rule(3, "the type of " + tree, isAllowedType(type));
        if (element.getKind() == ElementKind.FIELD && element.getModifiers().contains(Modifier.STATIC)) {
            rule(5, "final: " + tree, element.getModifiers().contains(Modifier.FINAL));
            rule(5, "the type of " + tree, STATIC_TYPES.contains(type));
            rule(5, "written out: " + tree, tree.getInitializer() != null
                    && (!type.endsWith("[]") || ((NewArrayTree) tree.getInitializer()).getInitializers() != null));
        }
        return super.visitVariable(tree, unused);
    }

    @Override
    public Void visitMethod(MethodTree tree, Void unused) {
        rule(11, "at most seven parameters: " + tree.getName(), tree.getParameters().size() <= 7);
        callsOf.computeIfAbsent(trees.getElement(getCurrentPath()), key -> new HashSet<>());
        if (tree.getReturnType() != null) {
            String type = typeOf(tree.getReturnType()).toString();
            rule(3, "what " + tree.getName() + " answers", type.equals("void") || isAllowedType(type));
        }
        return super.visitMethod(tree, unused);
    }

    // ---- calls

    @Override
    public Void visitMethodInvocation(MethodInvocationTree tree, Void unused) {
        called((ExecutableElement) elementOf(tree.getMethodSelect()));
        return super.visitMethodInvocation(tree, unused);
    }

    @Override
    public Void visitNewClass(NewClassTree tree, Void unused) {
        rule(2, "no class without a name: " + tree, tree.getClassBody() == null);
        called((ExecutableElement) trees.getElement(getCurrentPath()));
        return super.visitNewClass(tree, unused);
    }

    private void called(ExecutableElement to) {
        String of = to.getEnclosingElement().toString();
        if (isOwn(of)) {
            Element from = enclosingMethod();
            if (from != null) {
                callsOf.computeIfAbsent(from, key -> new HashSet<>()).add(to);
            }
            return;
        }
        // Some of StringBuilder's methods stand in a class above it.
        String type = to.getEnclosingElement().getSimpleName().toString().replace("Abstract", "");
        String call = type + "." + to.getSimpleName();
        rule(4, call, of.startsWith("java.lang.") && LIBRARY_CALLS.contains(call));
        boolean isAppend = call.equals("StringBuilder.append");
        boolean takesOne = isAppend && Set.of("char", "int", "java.lang.String")
                .contains(to.getParameters().get(0).asType().toString());
        rule(4, to.toString(), !isAppend || takesOne);
    }

    // ---- operators and loops

    @Override
    public Void visitBinary(BinaryTree tree, Void unused) {
        TypeMirror left = typeOf(tree.getLeftOperand());
        TypeMirror right = typeOf(tree.getRightOperand());
        boolean isLibrarys = isLibraryObject(left) && isLibraryObject(right);
        if (tree.getKind() == Tree.Kind.EQUAL_TO || tree.getKind() == Tree.Kind.NOT_EQUAL_TO) {
            rule(6, "no == between texts: " + tree, !isLibrarys);
        }
        rule(10, "no texts joined by +: " + tree,
                tree.getKind() != Tree.Kind.PLUS || !isLibraryObject(left) && !isLibraryObject(right));
        if (tree.getKind() == Tree.Kind.DIVIDE || tree.getKind() == Tree.Kind.REMAINDER) {
            divisor(tree.getRightOperand());
        }
        return super.visitBinary(tree, unused);
    }

    private static boolean isLibraryObject(TypeMirror type) {
        return type.getKind() == TypeKind.DECLARED && !isOwn(type.toString());
    }

    /** Only plan divides by what it is given, and looks at it first. */
    private void divisor(ExpressionTree by) {
        Element element = elementOf(by);
        boolean isNumber = by.getKind() == Tree.Kind.INT_LITERAL && !by.toString().equals("0");
        boolean isConstant = element != null && element.getModifiers().contains(Modifier.STATIC);
        boolean isAdded = by.toString().equals("(i + 1)");
        boolean isPlans = enclosingMethod() != null && enclosingMethod().getSimpleName().contentEquals("plan");
        rule(7, "the divisor " + by, isNumber || isConstant || isAdded || isPlans);
    }

    @Override
    public Void visitAssignment(AssignmentTree tree, Void unused) {
        changed(tree.getVariable());
        return super.visitAssignment(tree, unused);
    }

    @Override
    public Void visitCompoundAssignment(CompoundAssignmentTree tree, Void unused) {
        changed(tree.getVariable());
        rule(10, "no texts joined by +=: " + tree, !isLibraryObject(typeOf(tree.getVariable())));
        return super.visitCompoundAssignment(tree, unused);
    }

    @Override
    public Void visitUnary(UnaryTree tree, Void unused) {
        boolean isStep = tree.getKind().name().contains("CREMENT");
        if (isStep) {
            changed(tree.getExpression());
        }
        return super.visitUnary(tree, unused);
    }

    private void changed(ExpressionTree what) {
        if (what.getKind() == Tree.Kind.ARRAY_ACCESS) {
            Element of = elementOf(((ArrayAccessTree) what).getExpression());
            rule(5, "never changed: " + what, of == null || !of.getModifiers().contains(Modifier.STATIC));
        }
    }

    @Override
    public Void visitForLoop(ForLoopTree tree, Void unused) {
        rule(9, "an end that can be seen: " + tree, tree.getCondition() != null && !tree.getUpdate().isEmpty());
        return super.visitForLoop(tree, unused);
    }

    @Override
    public Void visitWhileLoop(WhileLoopTree tree, Void unused) {
        rule(9, "loops are counted: " + tree, false);
        return super.visitWhileLoop(tree, unused);
    }

    @Override
    public Void visitDoWhileLoop(DoWhileLoopTree tree, Void unused) {
        rule(9, "loops are counted: " + tree, false);
        return super.visitDoWhileLoop(tree, unused);
    }

    // ---- how deep the calls go

    /** Rules 8 and 11: what calls itself is private and known by name; all else goes at most eight deep. */
    private void depths() {
        for (Element method : callsOf.keySet()) {
            if (reaches(method, method, new HashSet<>())) {
                rule(8, "calls itself: " + method, method.getModifiers().contains(Modifier.PRIVATE)
                        && Set.of("wins", "winsWith").contains(method.getSimpleName().toString()));
            }
        }
        for (Element method : callsOf.keySet()) {
            int depth = depth(method, new HashSet<>());
            rule(11, method + " goes " + depth + " deep", depth <= DEEPEST);
        }
        CHECKS.yes("the methods were found", callsOf.size() > 50);
    }

    private boolean reaches(Element from, Element to, Set<Element> seen) {
        for (Element next : callsOf.getOrDefault(from, Set.of())) {
            if (next.equals(to) || seen.add(next) && reaches(next, to, seen)) {
                return true;
            }
        }
        return false;
    }

    /** Calls that stand open at once, each method counting once. */
    private int depth(Element from, Set<Element> open) {
        if (!open.add(from)) {
            return 0;
        }
        int deepest = 0;
        for (Element next : callsOf.getOrDefault(from, Set.of())) {
            deepest = Math.max(deepest, depth(next, open));
        }
        open.remove(from);
        return deepest + 1;
    }
}
