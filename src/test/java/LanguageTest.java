import com.sun.source.tree.ArrayAccessTree;
import com.sun.source.tree.AssertTree;
import com.sun.source.tree.BinaryTree;
import com.sun.source.tree.BlockTree;
import com.sun.source.tree.ClassTree;
import com.sun.source.tree.CompoundAssignmentTree;
import com.sun.source.tree.DoWhileLoopTree;
import com.sun.source.tree.EnhancedForLoopTree;
import com.sun.source.tree.ExpressionTree;
import com.sun.source.tree.ForLoopTree;
import com.sun.source.tree.IdentifierTree;
import com.sun.source.tree.ImportTree;
import com.sun.source.tree.LambdaExpressionTree;
import com.sun.source.tree.LiteralTree;
import com.sun.source.tree.MemberReferenceTree;
import com.sun.source.tree.MemberSelectTree;
import com.sun.source.tree.MethodInvocationTree;
import com.sun.source.tree.MethodTree;
import com.sun.source.tree.NewArrayTree;
import com.sun.source.tree.NewClassTree;
import com.sun.source.tree.SynchronizedTree;
import com.sun.source.tree.ThrowTree;
import com.sun.source.tree.Tree;
import com.sun.source.tree.TryTree;
import com.sun.source.tree.TypeCastTree;
import com.sun.source.tree.VariableTree;
import com.sun.source.tree.WhileLoopTree;
import com.sun.source.util.TreePath;
import com.sun.source.util.TreePathScanner;
import java.io.IOException;
import java.nio.charset.StandardCharsets;
import java.nio.file.Files;
import java.nio.file.Path;
import java.util.List;
import java.util.Set;
import javax.lang.model.element.Element;
import javax.lang.model.element.ElementKind;
import javax.lang.model.element.ExecutableElement;
import javax.lang.model.element.Modifier;
import javax.lang.model.type.ArrayType;
import javax.lang.model.type.TypeKind;
import javax.lang.model.type.TypeMirror;

/** LANGUAGE.md, rule by rule, as far as it can be read from the source; each wrong thing is told with its rule. */
public final class LanguageTest extends TreePathScanner<Void, Void> {
    private static final int CLASSES = 12, FIELDS = 20, LINES = 60, PARAMETERS = 7, DEPTH = 8;

    private static final Set<String> TYPES = Set.of("java.lang.String", "java.lang.StringBuilder", "java.lang.Integer",
            "java.util.ArrayList", "java.util.List", "java.util.Iterator", "java.lang.Iterable", "java.lang.Comparable");
    private static final Set<String> OF_STRINGS = Set.of("length", "charAt", "isEmpty", "equals", "indexOf", "substring", "toCharArray");
    private static final Set<String> OF_BUILDERS = Set.of("append", "charAt", "setCharAt", "setLength", "deleteCharAt", "reverse",
            "length", "toString");
    private static final Set<String> OF_LISTS = Set.of("add", "get", "set", "remove", "size", "isEmpty", "clear", "of", "iterator");
    private static final Set<String> OF_NUMBERS = Set.of("compare", "max", "min", "abs", "bitCount", "floorDiv", "floorMod", "signum",
            "numberOfTrailingZeros", "numberOfLeadingZeros", "highestOneBit", "lowestOneBit");
    private static final Set<String> OF_ARRAYS = Set.of("copyOf", "copyOfRange", "fill");

    private final Check check = new Check("language");
    private final Source source = new Source();
    private int seen;
    private int classes;
    private int loops;

    private LanguageTest() throws IOException {
    }

    public static void main(String[] args) throws IOException {
        LanguageTest t = new LanguageTest();
        t.file();
        t.scan(t.source.unit, null);
        t.callsOfCalls();
        t.check.due("rule 11: classes, " + t.classes, t.classes <= CLASSES ? 1 : 0, 1);
        t.check.due("things were looked at: " + t.seen, t.seen > 1000 ? 1 : 0, 1);
        t.check.end();
    }

    private void rule(int number, boolean kept, Tree tree, String what) {
        seen++;
        if (!kept) {
            check.due("rule " + number + ", " + source.placeOf(tree) + ": " + what, 0, 1);
        }
    }

    // ---- the file (1) and its signs (4)

    private void file() throws IOException {
        check.due("rule 1: package", source.unit.getPackageName() == null ? 1 : 0, 1);
        check.due("rule 1: classes of the file", source.unit.getTypeDecls().size(), 1);
        check.text("rule 1: name", source.face().getSimpleName().toString(), "WhoRules");
        String text = new String(Files.readAllBytes(Path.of(Source.FILE)), StandardCharsets.ISO_8859_1);
        for (int i = 0; i < text.length(); i++) {
            char c = text.charAt(i);
            if (c > 126 || c < 32 && c != '\n') {
                check.due("rule 4: sign " + (int) c + " at " + i, 0, 1);
            }
        }
    }

    @Override
    public Void visitImport(ImportTree tree, Void p) {
        String name = tree.getQualifiedIdentifier().toString();
        rule(4, !tree.isStatic() && (TYPES.contains(name) || name.equals("java.util.Arrays")), tree, "import of " + name);
        return null;
    }

    // ---- classes inside (2), their fields (5), and how many (11)

    @Override
    public Void visitClass(ClassTree tree, Void p) {
        classes++;
        Tree parent = getCurrentPath().getParentPath().getLeaf();
        boolean top = parent == source.unit;
        rule(2, top || parent instanceof ClassTree, tree, "a local or anonymous class");
        rule(2, top || source.elementAt(getCurrentPath()).getModifiers().contains(Modifier.STATIC), tree, "an inner class");
        rule(1, top || !tree.getModifiers().getFlags().contains(Modifier.PUBLIC)
                && !tree.getModifiers().getFlags().contains(Modifier.PROTECTED), tree, "a class that others see");
        int fields = 0;
        for (Tree member : tree.getMembers()) {
            if (member instanceof VariableTree field) {
                boolean fixed = field.getModifiers().getFlags().contains(Modifier.STATIC);
                fields += fixed ? 0 : 1;
                rule(5, !fixed || isConstant(field), field, "static " + field.getName());
            }
            rule(5, !(member instanceof BlockTree), member, "an initialiser block");
        }
        rule(11, fields <= FIELDS, tree, fields + " fields");
        return super.visitClass(tree, p);
    }

    private boolean isConstant(VariableTree field) {
        String type = field.getType().toString();
        boolean plain = Set.of("int", "long", "boolean", "char", "String").contains(type);
        boolean row = Set.of("int[]", "long[]", "char[]", "byte[]").contains(type)
                && field.getInitializer() instanceof NewArrayTree array && array.getInitializers() != null;
        return field.getModifiers().getFlags().contains(Modifier.FINAL) && field.getInitializer() != null && (plain || row);
    }

    @Override
    public Void visitLambdaExpression(LambdaExpressionTree tree, Void p) {
        rule(2, false, tree, "a lambda");
        return null;
    }

    @Override
    public Void visitMemberReference(MemberReferenceTree tree, Void p) {
        rule(2, false, tree, "a method reference");
        return null;
    }

    // ---- types (3)

    @Override
    public Void visitVariable(VariableTree tree, Void p) {
        rule(3, isAllowed(source.typeAt(getCurrentPath())), tree, "the type of " + tree.getName());
        return super.visitVariable(tree, p);
    }

    private static boolean isAllowed(TypeMirror type) {
        if (type.getKind() == TypeKind.ARRAY) {
            TypeMirror of = ((ArrayType) type).getComponentType();
            if (of.getKind() == TypeKind.ARRAY) {
                return ((ArrayType) of).getComponentType().getKind().isPrimitive();
            }
            return of.getKind().isPrimitive() || isOwn(of);
        }
        return type.getKind().isPrimitive() || type.getKind() == TypeKind.VOID || isOwn(type) || TYPES.contains(Source.nameOf(type));
    }

    private static boolean isOwn(TypeMirror type) {
        return Source.nameOf(type).startsWith("WhoRules");
    }

    // ---- the library (4), no text of an own object (6)

    @Override
    public Void visitMethodInvocation(MethodInvocationTree tree, Void p) {
        Element called = source.elementAt(new TreePath(getCurrentPath(), tree.getMethodSelect()));
        boolean fine = Source.isOwn(called) || called.getSimpleName().contentEquals("<init>") || isListed(called);
        rule(4, fine, tree, "a call of " + called);
        return super.visitMethodInvocation(tree, p);
    }

    private static boolean isListed(Element called) {
        String name = called.getSimpleName().toString();
        switch (Source.nameOf(called.getEnclosingElement().asType())) {
            case "java.lang.String":
                return OF_STRINGS.contains(name);
            case "java.lang.StringBuilder":
                return OF_BUILDERS.contains(name);
            case "java.util.ArrayList":
            case "java.util.List":
                return OF_LISTS.contains(name);
            case "java.lang.Integer":
            case "java.lang.Long":
            case "java.lang.Math":
                return OF_NUMBERS.contains(name);
            case "java.util.Arrays":
                return OF_ARRAYS.contains(name);
            case "java.lang.System":
                return name.equals("arraycopy");
            default:
                return name.equals("clone") && called.getEnclosingElement().toString().equals("Array");
        }
    }

    /** The least long is the document's own constant; of the library nothing else is listed but calls. */
    @Override
    public Void visitMemberSelect(MemberSelectTree tree, Void p) {
        Element element = source.elementAt(getCurrentPath());
        if (element != null && element.getKind() == ElementKind.FIELD && !Source.isOwn(element)) {
            boolean length = tree.getIdentifier().contentEquals("length");
            boolean face = getCurrentPath().getParentPath().getLeaf() instanceof VariableTree v && v.getName().contentEquals("NO");
            rule(4, length || face, tree, "the library's " + tree);
        }
        return super.visitMemberSelect(tree, p);
    }

    @Override
    public Void visitLiteral(LiteralTree tree, Void p) {
        if (tree.getValue() instanceof String text) {
            rule(4, text.chars().allMatch(c -> c > 0 && c < 128), tree, "a text with other signs");
        }
        return null;
    }

    // ---- what throws or waits (6), and comparing (6)

    @Override
    public Void visitThrow(ThrowTree tree, Void p) {
        rule(6, false, tree, "throw");
        return null;
    }

    @Override
    public Void visitTry(TryTree tree, Void p) {
        rule(6, false, tree, "try");
        return null;
    }

    @Override
    public Void visitSynchronized(SynchronizedTree tree, Void p) {
        rule(6, false, tree, "synchronized");
        return null;
    }

    @Override
    public Void visitAssert(AssertTree tree, Void p) {
        rule(6, false, tree, "assert");
        return null;
    }

    @Override
    public Void visitTypeCast(TypeCastTree tree, Void p) {
        TypeMirror to = source.typeAt(getCurrentPath());
        rule(6, to.getKind().isPrimitive() || isOwn(to), tree, "a cast to " + to);
        return super.visitTypeCast(tree, p);
    }

    @Override
    public Void visitBinary(BinaryTree tree, Void p) {
        String left = nameOf(tree.getLeftOperand());
        String right = nameOf(tree.getRightOperand());
        switch (tree.getKind()) {
            case EQUAL_TO:
            case NOT_EQUAL_TO:
                rule(6, !isBoxed(left) && !isBoxed(right), tree, "two texts or Integers compared");
                break;
            case PLUS:
                rule(10, !left.equals("java.lang.String") && !right.equals("java.lang.String"), tree, "texts joined by +");
                break;
            case AND:
            case OR:
            case XOR:
                rule(10, !left.equals("boolean"), tree, "masks of no numbers");
                break;
            default:
                break;
        }
        return super.visitBinary(tree, p);
    }

    @Override
    public Void visitCompoundAssignment(CompoundAssignmentTree tree, Void p) {
        String name = nameOf(tree.getVariable());
        rule(10, !name.equals("java.lang.String") && !name.equals("boolean"), tree, tree.toString());
        return super.visitCompoundAssignment(tree, p);
    }

    private static boolean isBoxed(String name) {
        return name.equals("java.lang.String") || name.equals("java.lang.Integer");
    }

    private String nameOf(ExpressionTree tree) {
        TypeMirror type = source.typeAt(new TreePath(getCurrentPath(), tree));
        return type.getKind().isPrimitive() ? type.toString() : Source.nameOf(type);
    }

    // ---- loops that end (9), objects made in them (12)

    @Override
    public Void visitForLoop(ForLoopTree tree, Void p) {
        rule(9, tree.getCondition() != null && !tree.getUpdate().isEmpty() && compares(tree.getCondition()), tree, "a loop without a bound");
        return loop(() -> super.visitForLoop(tree, p));
    }

    @Override
    public Void visitWhileLoop(WhileLoopTree tree, Void p) {
        rule(9, compares(tree.getCondition()), tree, "a loop without a bound");
        return loop(() -> super.visitWhileLoop(tree, p));
    }

    @Override
    public Void visitDoWhileLoop(DoWhileLoopTree tree, Void p) {
        rule(9, compares(tree.getCondition()), tree, "a loop without a bound");
        return loop(() -> super.visitDoWhileLoop(tree, p));
    }

    @Override
    public Void visitEnhancedForLoop(EnhancedForLoopTree tree, Void p) {
        return loop(() -> super.visitEnhancedForLoop(tree, p));
    }

    private Void loop(Runnable inside) {
        loops++;
        inside.run();
        loops--;
        return null;
    }

    private static boolean compares(ExpressionTree condition) {
        return condition.toString().matches("(?s).*(<|>|!= null).*");
    }

    @Override
    public Void visitNewClass(NewClassTree tree, Void p) {
        rule(2, tree.getClassBody() == null, tree, "an anonymous class");
        rule(12, loops == 0, tree, "an object made in a loop");
        return super.visitNewClass(tree, p);
    }

    @Override
    public Void visitNewArray(NewArrayTree tree, Void p) {
        rule(12, loops == 0, tree, "a row made in a loop");
        rule(3, isAllowed(source.typeAt(getCurrentPath())), tree, "the type of a row");
        return super.visitNewArray(tree, p);
    }

    @Override
    public Void visitArrayAccess(ArrayAccessTree tree, Void p) {
        Element row = source.elementAt(new TreePath(getCurrentPath(), tree.getExpression()));
        Tree parent = getCurrentPath().getParentPath().getLeaf();
        boolean written = parent instanceof com.sun.source.tree.AssignmentTree a && a.getVariable() == tree
                || parent instanceof CompoundAssignmentTree c && c.getVariable() == tree
                || parent instanceof com.sun.source.tree.UnaryTree;
        rule(5, !written || row == null || !row.getModifiers().contains(Modifier.STATIC), tree, "a static row is changed");
        return super.visitArrayAccess(tree, p);
    }

    // ---- methods (11), constructors (12)

    @Override
    public Void visitMethod(MethodTree tree, Void p) {
        rule(11, tree.getParameters().size() <= PARAMETERS, tree, tree.getParameters().size() + " parameters");
        rule(11, source.linesOf(tree) <= LINES, tree, source.linesOf(tree) + " lines");
        rule(6, !Set.of("equals", "hashCode", "toString").contains(tree.getName().toString()), tree, "own " + tree.getName());
        if (tree.getName().contentEquals("<init>")) {
            constructor(tree);
        }
        return super.visitMethod(tree, p);
    }

    private void constructor(MethodTree tree) {
        new TreePathScanner<Void, Void>() {
            @Override
            public Void visitMethodInvocation(MethodInvocationTree call, Void p) {
                Element called = source.elementAt(new TreePath(getCurrentPath(), call.getMethodSelect()));
                Set<Modifier> flags = called.getModifiers();
                boolean fixed = flags.contains(Modifier.PRIVATE) || flags.contains(Modifier.STATIC) || flags.contains(Modifier.FINAL);
                rule(12, !Source.isOwn(called) || called.getKind() == ElementKind.CONSTRUCTOR || fixed, call,
                        "a constructor calls " + called);
                return super.visitMethodInvocation(call, p);
            }

            @Override
            public Void visitIdentifier(IdentifierTree name, Void p) {
                boolean member = getCurrentPath().getParentPath().getLeaf() instanceof MemberSelectTree;
                rule(12, member || !name.getName().contentEquals("this"), name, "a constructor hands itself out");
                return null;
            }
        }.scan(getCurrentPath(), null);
    }

    // ---- recursion (8), how deep calls go (11)

    private void callsOfCalls() {
        CallGraph graph = new CallGraph(source);
        int deepest = 0;
        for (CallGraph.Node node : graph.nodes()) {
            deepest = Math.max(deepest, graph.depthFrom(node));
            if (graph.isRecursive(node)) {
                ExecutableElement method = node.method();
                check.due("rule 8: private, " + node, method.getModifiers().contains(Modifier.PRIVATE) ? 1 : 0, 1);
                boolean fixed = method.getModifiers().contains(Modifier.STATIC);
                check.due("rule 8: static, as it calls itself, " + node, fixed || !graph.callsItself(node) ? 1 : 0, 1);
                boolean told = method.getParameters().stream().anyMatch(v -> v.asType().getKind() == TypeKind.INT);
                check.due("rule 8: a depth as an argument, " + node, told ? 1 : 0, 1);
            }
        }
        System.out.println("language: calls go " + deepest + " deep");
        check.due("rule 11: calls are deep, " + deepest, deepest <= DEPTH ? 1 : 0, 1);
        check.due("methods were found", graph.nodes().size() > List.of(getClass().getMethods()).size() ? 1 : 0, 1);
    }
}
