import com.sun.source.tree.ClassTree;
import com.sun.source.tree.ExpressionTree;
import com.sun.source.tree.IdentifierTree;
import com.sun.source.tree.MemberSelectTree;
import com.sun.source.tree.MethodInvocationTree;
import com.sun.source.tree.MethodTree;
import com.sun.source.util.TreePath;
import com.sun.source.util.TreePathScanner;
import java.util.ArrayList;
import java.util.HashMap;
import java.util.LinkedHashMap;
import java.util.LinkedHashSet;
import java.util.List;
import java.util.Map;
import java.util.Set;
import javax.lang.model.element.Element;
import javax.lang.model.element.ExecutableElement;
import javax.lang.model.element.Modifier;
import javax.lang.model.element.TypeElement;
import javax.lang.model.util.ElementFilter;

/**
 * Which of the program's methods call which. A method that an object runs is told by its code and by the
 * object's class, for that decides which body a call without super has.
 */
final class CallGraph {
    /** A method as an object of a class runs it; of a static method the class is that in which it stands. */
    record Node(ExecutableElement method, TypeElement of) {
        @Override
        public String toString() {
            return of.getSimpleName() + ":" + method.getEnclosingElement().getSimpleName() + "." + method.getSimpleName();
        }
    }

    private record Call(ExecutableElement method, boolean toThis, boolean toSuper) {
    }

    private final Source source;
    private final List<TypeElement> classes = new ArrayList<>();
    private final Map<ExecutableElement, List<Call>> calls = new LinkedHashMap<>();
    private final Map<Node, Set<Node>> next = new LinkedHashMap<>();
    private final Map<Node, Integer> depth = new HashMap<>();

    CallGraph(Source source) {
        this.source = source;
        new Reader().scan(source.unit, null);
        for (ExecutableElement method : calls.keySet()) {
            if (method.getModifiers().contains(Modifier.PUBLIC)) {
                enter(new Node(method, (TypeElement) method.getEnclosingElement()));
            }
        }
    }

    Set<Node> nodes() {
        return next.keySet();
    }

    private final class Reader extends TreePathScanner<Void, ExecutableElement> {
        @Override
        public Void visitClass(ClassTree tree, ExecutableElement in) {
            classes.add((TypeElement) source.elementAt(getCurrentPath()));
            return super.visitClass(tree, in);
        }

        @Override
        public Void visitMethod(MethodTree tree, ExecutableElement in) {
            ExecutableElement method = (ExecutableElement) source.elementAt(getCurrentPath());
            calls.put(method, new ArrayList<>());
            return super.visitMethod(tree, method);
        }

        @Override
        public Void visitMethodInvocation(MethodInvocationTree tree, ExecutableElement in) {
            ExpressionTree select = tree.getMethodSelect();
            Element called = source.elementAt(new TreePath(getCurrentPath(), select));
            if (in != null && called instanceof ExecutableElement method && Source.isOwn(method)) {
                boolean named = select instanceof IdentifierTree;
                boolean toSuper = select instanceof MemberSelectTree member && member.getExpression().toString().equals("super");
                calls.get(in).add(new Call(method, named, toSuper));
            }
            return super.visitMethodInvocation(tree, in);
        }
    }

    private void enter(Node node) {
        if (next.containsKey(node)) {
            return;
        }
        Set<Node> called = new LinkedHashSet<>();
        next.put(node, called);
        for (Call call : calls.getOrDefault(node.method(), List.of())) {
            called.addAll(bodiesOf(call, node.of()));
        }
        called.forEach(this::enter);
    }

    private List<Node> bodiesOf(Call call, TypeElement caller) {
        TypeElement home = (TypeElement) call.method().getEnclosingElement();
        if (call.method().getModifiers().contains(Modifier.STATIC)) {
            return List.of(new Node(call.method(), home));
        }
        if (call.toSuper() || call.method().getSimpleName().contentEquals("<init>")) {
            return List.of(new Node(call.method(), caller));
        }
        if (call.toThis()) {
            return List.of(new Node(bodyIn(caller, call.method()), caller));
        }
        List<Node> bodies = new ArrayList<>();
        for (TypeElement c : classes) {
            if (source.types.isSubtype(c.asType(), home.asType())) {
                bodies.add(new Node(bodyIn(c, call.method()), c));
            }
        }
        return bodies;
    }

    /** The body that a call to an object of a class has: its own, or that of the next class above. */
    private ExecutableElement bodyIn(TypeElement of, ExecutableElement method) {
        for (TypeElement at = of; Source.isOwn(at); at = (TypeElement) source.types.asElement(at.getSuperclass())) {
            for (ExecutableElement m : ElementFilter.methodsIn(at.getEnclosedElements())) {
                if (m.getSimpleName().equals(method.getSimpleName())
                        && m.getParameters().size() == method.getParameters().size()) {
                    return m;
                }
            }
        }
        return method;
    }

    boolean reaches(Node from, Node to) {
        Set<Node> seen = new LinkedHashSet<>(next.get(from));
        List<Node> open = new ArrayList<>(seen);
        for (int i = 0; i < open.size(); i++) {
            for (Node n : next.get(open.get(i))) {
                if (seen.add(n)) {
                    open.add(n);
                }
            }
        }
        return seen.contains(to);
    }

    boolean callsItself(Node node) {
        return next.get(node).contains(node);
    }

    boolean isRecursive(Node node) {
        return reaches(node, node);
    }

    /** How many calls stand open at most, from a method on, when those that call one another count as one. */
    int depthFrom(Node node) {
        Integer known = depth.get(node);
        if (known != null) {
            return known;
        }
        Set<Node> circle = circleOf(node);
        int most = 0;
        for (Node member : circle) {
            for (Node out : next.get(member)) {
                most = circle.contains(out) ? most : Math.max(most, depthFrom(out));
            }
        }
        depth.put(node, most + 1);
        return most + 1;
    }

    private Set<Node> circleOf(Node node) {
        Set<Node> circle = new LinkedHashSet<>();
        circle.add(node);
        for (Node n : next.keySet()) {
            if (reaches(node, n) && reaches(n, node)) {
                circle.add(n);
            }
        }
        return circle;
    }
}
