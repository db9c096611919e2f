import com.sun.source.tree.AssertTree;
import com.sun.source.tree.BinaryTree;
import com.sun.source.tree.ClassTree;
import com.sun.source.tree.CompilationUnitTree;
import com.sun.source.tree.CompoundAssignmentTree;
import com.sun.source.tree.IdentifierTree;
import com.sun.source.tree.LambdaExpressionTree;
import com.sun.source.tree.LiteralTree;
import com.sun.source.tree.MemberReferenceTree;
import com.sun.source.tree.MemberSelectTree;
import com.sun.source.tree.MethodInvocationTree;
import com.sun.source.tree.MethodTree;
import com.sun.source.tree.NewArrayTree;
import com.sun.source.tree.NewClassTree;
import com.sun.source.tree.SynchronizedTree;
import com.sun.source.tree.Tree;
import com.sun.source.tree.TryTree;
import com.sun.source.tree.VariableTree;
import com.sun.source.util.JavacTask;
import com.sun.source.util.TreePath;
import com.sun.source.util.TreePathScanner;
import com.sun.source.util.Trees;
import java.nio.file.Path;
import java.util.ArrayDeque;
import java.util.Deque;
import java.util.HashMap;
import java.util.List;
import java.util.Map;
import java.util.Set;
import java.util.TreeMap;
import java.util.TreeSet;
import javax.lang.model.element.Element;
import javax.lang.model.element.ElementKind;
import javax.lang.model.element.ExecutableElement;
import javax.lang.model.element.Modifier;
import javax.lang.model.element.TypeElement;
import javax.lang.model.type.TypeMirror;
import javax.tools.JavaCompiler;
import javax.tools.StandardJavaFileManager;
import javax.tools.ToolProvider;

/** The rules of LANGUAGE.md that the compiler's own tree of the source shows. */
public final class RulesTest extends TreePathScanner<Void, Void> {
    private static final int MOST_LINES = 60;
    private static final int MOST_DEEP = 8;

    /** Rule 4: of the library only what stands there, as far as the class could want it. */
    private static final Set<String> LIBRARY = Set.of(
        "java.lang.Object.<init>()",
        "java.lang.String.length()", "java.lang.String.charAt(int)", "java.lang.String.indexOf(int)",
        "java.lang.Math.max(int,int)", "java.lang.Math.max(long,long)", "java.lang.Math.min(int,int)",
        "java.lang.Math.min(long,long)", "java.lang.Math.abs(int)",
        "java.util.Arrays.fill(int[],int)",
        "java.lang.System.arraycopy(java.lang.Object,int,java.lang.Object,int,int)",
        "java.util.NoSuchElementException.<init>(java.lang.String)");

    /** Rule 3, without what the class has no use for. */
    private static final Set<String> TYPES = Set.of("int", "long", "boolean", "int[]", "int[][]", "java.lang.String");

    /** Rule 5. */
    private static final Set<String> CONSTANTS = Set.of("int", "long", "boolean", "char", "java.lang.String", "int[]");

    private final CompilationUnitTree unit;
    private final Trees trees;
    private final Deque<String> inside = new ArrayDeque<>();
    private boolean insideConstructor = false;
    /** By method: those that it calls itself, of this file. */
    private final Map<String, Set<String>> calls = new TreeMap<>();
    private final Set<String> isAbstract = new TreeSet<>();

    private RulesTest(CompilationUnitTree unit, Trees trees) {
        this.unit = unit;
        this.trees = trees;
    }

    public static void main(String[] args) throws Exception {
        JavaCompiler compiler = ToolProvider.getSystemJavaCompiler();
        try (StandardJavaFileManager files = compiler.getStandardFileManager(null, null, null)) {
            Path source = Path.of(args.length > 0 ? args[0] : "src/main/java/NeighbourSoup.java");
            List<String> options = List.of("-proc:none");
            JavacTask task = (JavacTask) compiler.getTask(null, files, null, options, null, files.getJavaFileObjects(source));
            CompilationUnitTree unit = task.parse().iterator().next();
            task.analyze();
            RulesTest rules = new RulesTest(unit, Trees.instance(task));
            rules.scan(unit, null);
            rules.depth();
        }
        Check.finish();
    }

    private String at(Tree tree) {
        long from = trees.getSourcePositions().getStartPosition(unit, tree);
        return "line " + unit.getLineMap().getLineNumber(from) + ": ";
    }

    private void no(Tree tree, String what) {
        Check.due(at(tree) + what, true, false);
    }

    private Element element(Tree tree) {
        return trees.getElement(TreePath.getPath(unit, tree));
    }

    private String type(Tree tree) {
        TypeMirror type = trees.getTypeMirror(TreePath.getPath(unit, tree));
        return type == null ? "" : type.toString();
    }

    private static boolean isOwn(String type) {
        return type.equals("NeighbourSoup") || type.startsWith("NeighbourSoup.");
    }

    private static String named(Element method) {
        return ((TypeElement) method.getEnclosingElement()).getQualifiedName() + "." + method;
    }

    /** As the library's names stand above; a constructor is told by its own class's name otherwise. */
    private static String libraryName(ExecutableElement method) {
        String owner = ((TypeElement) method.getEnclosingElement()).getQualifiedName().toString();
        StringBuilder types = new StringBuilder();
        method.getParameters().forEach(p -> types.append(types.length() == 0 ? "" : ",").append(p.asType()));
        return owner + "." + method.getSimpleName() + "(" + types + ")";
    }

    @Override
    public Void visitMethod(MethodTree tree, Void none) {
        Element method = element(tree);
        String name = named(method);
        long from = trees.getSourcePositions().getStartPosition(unit, tree);
        long to = trees.getSourcePositions().getEndPosition(unit, tree);
        if (to >= 0) {
            long lines = unit.getLineMap().getLineNumber(to) - unit.getLineMap().getLineNumber(from) + 1;
            Check.due(name + " has " + lines + " lines, rule 11", lines <= MOST_LINES, true);
        }
        Check.due(name + " has seven parameters at most, rule 11", tree.getParameters().size() <= 7, true);
        if (method.getModifiers().contains(Modifier.ABSTRACT)) {
            isAbstract.add(name);
        }
        calls.putIfAbsent(name, new TreeSet<>());
        inside.push(name);
        boolean outer = insideConstructor;
        insideConstructor = method.getKind() == ElementKind.CONSTRUCTOR;
        super.visitMethod(tree, none);
        insideConstructor = outer;
        inside.pop();
        return null;
    }

    private void call(Tree tree, ExecutableElement method) {
        String owner = ((TypeElement) method.getEnclosingElement()).getQualifiedName().toString();
        if (!isOwn(owner)) {
            Check.due(at(tree) + libraryName(method) + ", rule 4", LIBRARY.contains(libraryName(method)), true);
        } else if (!inside.isEmpty()) {
            calls.get(inside.peek()).add(named(method));
        }
    }

    @Override
    public Void visitMethodInvocation(MethodInvocationTree tree, Void none) {
        if (element(tree) instanceof ExecutableElement method) {
            call(tree, method);
            if (libraryName(method).equals("java.lang.String.indexOf(int)")) {
                Check.due(at(tree) + "indexOf of a char, rule 4", type(tree.getArguments().get(0)).equals("char"), true);
            }
        } else {
            no(tree, "a call that is not known");
        }
        return super.visitMethodInvocation(tree, none);
    }

    @Override
    public Void visitNewClass(NewClassTree tree, Void none) {
        if (element(tree) instanceof ExecutableElement method) {
            call(tree, method);
        }
        boolean thrown = getCurrentPath().getParentPath().getLeaf().getKind() == Tree.Kind.THROW;
        Check.due(at(tree) + "an object of a call, rule 12", thrown || insideConstructor, true);
        Check.due(at(tree) + "a throw in a constructor, rule 6", thrown && insideConstructor, false);
        return super.visitNewClass(tree, none);
    }

    /** Rows are made with the object: in a constructor or where a field is told. */
    @Override
    public Void visitNewArray(NewArrayTree tree, Void none) {
        Check.due(at(tree) + "a row of a call, rule 12", inside.isEmpty() || insideConstructor, true);
        return super.visitNewArray(tree, none);
    }

    @Override
    public Void visitVariable(VariableTree tree, Void none) {
        Element variable = element(tree);
        String type = variable.asType().toString();
        boolean may = TYPES.contains(type) || isOwn(type);
        Check.due(at(tree) + type + " " + tree.getName() + ", rule 3", may, true);
        if (variable.getModifiers().contains(Modifier.STATIC)) {
            Check.due(at(tree) + tree.getName() + ", rule 5",
                CONSTANTS.contains(type) && variable.getModifiers().contains(Modifier.FINAL), true);
            Check.due(at(tree) + tree.getName() + " is told, rule 5", tree.getInitializer() != null, true);
        }
        return super.visitVariable(tree, none);
    }

    /** Rule 4 has functions of Integer, Long and Math, and none of their constants. */
    @Override
    public Void visitMemberSelect(MemberSelectTree tree, Void none) {
        field(tree, element(tree));
        return super.visitMemberSelect(tree, none);
    }

    @Override
    public Void visitIdentifier(IdentifierTree tree, Void none) {
        field(tree, element(tree));
        return super.visitIdentifier(tree, none);
    }

    private void field(Tree tree, Element named) {
        if (named == null || named.getKind() != ElementKind.FIELD || named.getSimpleName().contentEquals("length")
                || named.getSimpleName().contentEquals("this") || named.getSimpleName().contentEquals("super")) {
            return;
        }
        if (named.getEnclosingElement() instanceof TypeElement owner) {
            String name = owner.getQualifiedName().toString();
            Check.due(at(tree) + name + "." + named + ", rule 4", isOwn(name), true);
        }
    }

    @Override
    public Void visitClass(ClassTree tree, Void none) {
        boolean named = tree.getKind() == Tree.Kind.CLASS && !tree.getSimpleName().isEmpty();
        Check.due(at(tree) + "a class with a name, rule 2", named && inside.isEmpty(), true);
        for (Tree member : tree.getMembers()) {
            Check.due(at(member) + "a block of its own, rule 5", member.getKind() == Tree.Kind.BLOCK, false);
        }
        return super.visitClass(tree, none);
    }

    @Override
    public Void visitLiteral(LiteralTree tree, Void none) {
        if (tree.getValue() instanceof String text) {
            Check.due(at(tree) + "signs 1 to 127, rule 4", text.chars().allMatch(c -> c >= 1 && c <= 127), true);
        }
        return super.visitLiteral(tree, none);
    }

    @Override
    public Void visitBinary(BinaryTree tree, Void none) {
        Check.due(at(tree) + "texts joined by +, rule 10", type(tree).equals("java.lang.String"), false);
        return super.visitBinary(tree, none);
    }

    @Override
    public Void visitCompoundAssignment(CompoundAssignmentTree tree, Void none) {
        Check.due(at(tree) + "texts joined by +=, rule 10", type(tree).equals("java.lang.String"), false);
        return super.visitCompoundAssignment(tree, none);
    }

    @Override
    public Void visitLambdaExpression(LambdaExpressionTree tree, Void none) {
        no(tree, "a lambda, rule 2");
        return null;
    }

    @Override
    public Void visitMemberReference(MemberReferenceTree tree, Void none) {
        no(tree, "a method reference, rule 2");
        return null;
    }

    @Override
    public Void visitTry(TryTree tree, Void none) {
        no(tree, "a try; the class needs none");
        return null;
    }

    @Override
    public Void visitSynchronized(SynchronizedTree tree, Void none) {
        no(tree, "synchronized, rule 6");
        return null;
    }

    @Override
    public Void visitAssert(AssertTree tree, Void none) {
        no(tree, "assert, rule 6");
        return null;
    }

    /** Rule 11: calls that are no recursion go at most eight deep; methods that call one another round count once. */
    private void depth() {
        // an abstract method calls those that stand for it
        for (String name : isAbstract) {
            String simple = name.substring(name.lastIndexOf('.', name.indexOf('(')));
            for (String other : calls.keySet()) {
                if (!other.equals(name) && other.endsWith(simple)) {
                    calls.get(name).add(other);
                }
            }
        }
        Map<String, Set<String>> reached = new HashMap<>();
        for (String name : calls.keySet()) {
            reached.put(name, reachedFrom(name));
        }
        Map<String, Integer> deep = new HashMap<>();
        for (String name : calls.keySet()) {
            int depth = depthOf(name, reached, deep);
            Check.due(name + " goes " + depth + " deep, rule 11", depth <= MOST_DEEP, true);
        }
    }

    private Set<String> reachedFrom(String name) {
        Set<String> reached = new TreeSet<>();
        Deque<String> open = new ArrayDeque<>(List.of(name));
        while (!open.isEmpty()) {
            for (String next : calls.getOrDefault(open.pop(), Set.of())) {
                if (reached.add(next)) {
                    open.push(next);
                }
            }
        }
        return reached;
    }

    private int depthOf(String name, Map<String, Set<String>> reached, Map<String, Integer> known) {
        Integer before = known.get(name);
        if (before != null) {
            return before;
        }
        Set<String> round = new TreeSet<>(Set.of(name));
        for (String other : reached.getOrDefault(name, Set.of())) {
            if (reached.getOrDefault(other, Set.of()).contains(name)) {
                round.add(other);
            }
        }
        int below = 0;
        for (String member : round) {
            for (String next : calls.getOrDefault(member, Set.of())) {
                below = round.contains(next) ? below : Math.max(below, depthOf(next, reached, known));
            }
        }
        // one abstract method and the one that stands for it are one call
        int own = isAbstract.contains(name) ? 0 : 1;
        int depth = below + own;
        round.forEach(member -> known.put(member, depth));
        return depth;
    }
}
