import com.sun.source.tree.AnnotationTree;
import com.sun.source.tree.AssertTree;
import com.sun.source.tree.AssignmentTree;
import com.sun.source.tree.BinaryTree;
import com.sun.source.tree.BlockTree;
import com.sun.source.tree.ClassTree;
import com.sun.source.tree.CompilationUnitTree;
import com.sun.source.tree.CompoundAssignmentTree;
import com.sun.source.tree.ExpressionTree;
import com.sun.source.tree.ForLoopTree;
import com.sun.source.tree.IdentifierTree;
import com.sun.source.tree.ImportTree;
import com.sun.source.tree.LambdaExpressionTree;
import com.sun.source.tree.MemberReferenceTree;
import com.sun.source.tree.MemberSelectTree;
import com.sun.source.tree.MethodInvocationTree;
import com.sun.source.tree.MethodTree;
import com.sun.source.tree.NewArrayTree;
import com.sun.source.tree.NewClassTree;
import com.sun.source.tree.SynchronizedTree;
import com.sun.source.tree.ThrowTree;
import com.sun.source.tree.Tree;
import com.sun.source.tree.TryTree;
import com.sun.source.tree.VariableTree;
import com.sun.source.util.JavacTask;
import com.sun.source.util.SourcePositions;
import com.sun.source.util.TreePath;
import com.sun.source.util.TreePathScanner;
import com.sun.source.util.Trees;
import java.io.IOException;
import java.net.URI;
import java.util.ArrayList;
import java.util.LinkedHashMap;
import java.util.LinkedHashSet;
import java.util.List;
import java.util.Map;
import java.util.Set;
import java.util.TreeSet;
import javax.lang.model.element.Element;
import javax.lang.model.element.ElementKind;
import javax.lang.model.element.Modifier;
import javax.lang.model.element.TypeElement;
import javax.lang.model.type.ArrayType;
import javax.lang.model.type.TypeKind;
import javax.lang.model.type.TypeMirror;
import javax.tools.JavaCompiler;
import javax.tools.JavaFileObject;
import javax.tools.SimpleJavaFileObject;
import javax.tools.ToolProvider;

/** Reads a source as the compiler does and says where it leaves the rules of LANGUAGE.md, by their numbers. */
final class Language extends TreePathScanner<Void, Void> {
    private static final int MOST_LINES = 60;
    private static final int MOST_PARAMETERS = 7;
    private static final int MOST_CLASSES = 12;
    private static final int MOST_FIELDS = 20;
    private static final int MOST_DEEP = 8;

    private static final Map<String, Set<String>> LIBRARY = Map.of(
            "java.lang.String", Set.of("length", "charAt", "isEmpty", "equals", "indexOf", "substring", "toCharArray"),
            "java.lang.StringBuilder", Set.of("append", "charAt", "setCharAt", "setLength", "deleteCharAt", "reverse",
                    "length", "toString"),
            "java.util.ArrayList", Set.of("add", "get", "set", "remove", "size", "isEmpty", "clear"),
            "java.util.List", Set.of("add", "get", "set", "remove", "size", "isEmpty", "clear", "of"),
            "java.lang.Math", Set.of("max", "min", "abs", "floorDiv", "floorMod"),
            "java.lang.Integer", Set.of("compare", "max", "min", "bitCount"),
            "java.lang.Long", Set.of("compare", "max", "min", "bitCount"),
            "java.lang.System", Set.of("arraycopy"),
            "java.util.Arrays", Set.of("copyOf", "copyOfRange", "fill"));
    private static final Set<String> MADE = Set.of("java.lang.String", "java.lang.StringBuilder", "java.util.ArrayList");
    private static final Set<String> HELD = Set.of("java.lang.String", "java.lang.StringBuilder", "java.lang.Integer",
            "java.util.ArrayList", "java.util.List");
    private static final Set<String> CONSTANT = Set.of("int", "long", "boolean", "char", "java.lang.String");
    private static final Set<String> CONSTANT_ROWS = Set.of("int[]", "long[]", "char[]", "byte[]");

    private final CompilationUnitTree unit;
    private final Trees trees;
    private final List<String> broken = new ArrayList<>();
    private final Map<Element, Set<Element>> calls = new LinkedHashMap<>();
    private int classes;

    private Language(CompilationUnitTree unit, Trees trees) {
        this.unit = unit;
        this.trees = trees;
    }

    /** What in the source breaks a rule, each with the rule's number and its line; empty: nothing does. */
    static List<String> brokenIn(String name, String source) throws IOException {
        JavaCompiler compiler = ToolProvider.getSystemJavaCompiler();
        JavaFileObject file = new SimpleJavaFileObject(URI.create("string:///" + name + ".java"),
                JavaFileObject.Kind.SOURCE) {
            @Override
            public CharSequence getCharContent(boolean ignoreErrors) {
                return source;
            }
        };
        List<String> wrong = new ArrayList<>();
        JavacTask task = (JavacTask) compiler.getTask(null, null, d -> {
            if (d.getKind() == javax.tools.Diagnostic.Kind.ERROR) {
                wrong.add("not Java: " + d);
            }
        }, List.of("-proc:none"), null, List.of(file));
        CompilationUnitTree unit = task.parse().iterator().next();
        task.analyze();
        if (!wrong.isEmpty()) {
            return wrong;
        }
        Language language = new Language(unit, Trees.instance(task));
        language.scan(unit, null);
        language.lookAtCalls();
        if (language.classes > MOST_CLASSES) {
            language.broken.add("rule 11: " + language.classes + " classes");
        }
        return language.broken;
    }

    private void breaks(int rule, String what, Tree at) {
        long place = trees.getSourcePositions().getStartPosition(unit, at);
        broken.add("rule " + rule + ": " + what + " in line " + unit.getLineMap().getLineNumber(place));
    }

    private Element elementOf(Tree tree) {
        TreePath path = TreePath.getPath(unit, tree);
        return path == null ? null : trees.getElement(path);
    }

    private TypeMirror typeOf(Tree tree) {
        TreePath path = TreePath.getPath(unit, tree);
        return path == null ? null : trees.getTypeMirror(path);
    }

    private static String nameOf(Element type) {
        return type instanceof TypeElement t ? t.getQualifiedName().toString() : String.valueOf(type);
    }

    private boolean isOwn(Element element) {
        Element top = element;
        while (top != null && top.getEnclosingElement() != null
                && top.getEnclosingElement().getKind() != ElementKind.PACKAGE) {
            top = top.getEnclosingElement();
        }
        for (Tree t : unit.getTypeDecls()) {
            if (elementOf(t) == top) {
                return true;
            }
        }
        return false;
    }

    private Element methodAround() {
        for (TreePath p = getCurrentPath(); p != null; p = p.getParentPath()) {
            if (p.getLeaf() instanceof MethodTree) {
                return trees.getElement(p);
            }
        }
        return null;
    }

    @Override
    public Void visitImport(ImportTree tree, Void none) {
        String name = tree.getQualifiedIdentifier().toString();
        if (tree.isStatic() || !LIBRARY.containsKey(name)) {
            breaks(4, "import of " + name, tree);
        }
        return null;
    }

    @Override
    public Void visitClass(ClassTree tree, Void none) {
        classes++;
        Tree parent = getCurrentPath().getParentPath().getLeaf();
        boolean isTop = parent instanceof CompilationUnitTree;
        if (!isTop && !(parent instanceof ClassTree)) {
            breaks(2, "a local or anonymous class", tree);
        }
        boolean isStatic = tree.getModifiers().getFlags().contains(Modifier.STATIC) || tree.getKind() != Tree.Kind.CLASS;
        if (!isTop && !isStatic) {
            breaks(2, "a class that isn't static", tree);
        }
        int fields = 0;
        for (Tree member : tree.getMembers()) {
            if (member instanceof VariableTree v && !v.getModifiers().getFlags().contains(Modifier.STATIC)) {
                fields++;
            }
            if (member instanceof BlockTree block && block.isStatic()) {
                breaks(5, "a static initialiser block", member);
            }
        }
        if (fields > MOST_FIELDS) {
            breaks(11, fields + " fields", tree);
        }
        return super.visitClass(tree, none);
    }

    @Override
    public Void visitMethod(MethodTree tree, Void none) {
        SourcePositions places = trees.getSourcePositions();
        long first = unit.getLineMap().getLineNumber(Math.max(0, places.getStartPosition(unit, tree)));
        long last = unit.getLineMap().getLineNumber(Math.max(0, places.getEndPosition(unit, tree)));
        if (last - first + 1 > MOST_LINES) {
            breaks(11, tree.getName() + " of " + (last - first + 1) + " lines", tree);
        }
        if (tree.getParameters().size() > MOST_PARAMETERS) {
            breaks(11, tree.getName() + " takes " + tree.getParameters().size(), tree);
        }
        if (tree.getReturnType() != null) {
            lookAtType(typeOf(tree.getReturnType()), tree);
        }
        calls.computeIfAbsent(trees.getElement(getCurrentPath()), k -> new LinkedHashSet<>());
        return super.visitMethod(tree, none);
    }

    private void lookAtType(TypeMirror type, Tree at) {
        if (type == null) {
            return;
        }
        if (type instanceof ArrayType row) {
            TypeMirror inside = row.getComponentType();
            if (inside instanceof ArrayType inner) {
                boolean numbers = inner.getComponentType().getKind().isPrimitive()
                        && inner.getComponentType().getKind() != TypeKind.BOOLEAN;
                if (!numbers) {
                    breaks(3, "an array of two dimensions of " + inner.getComponentType(), at);
                }
            } else if (!inside.getKind().isPrimitive() && HELD.contains(bare(inside))) {
                breaks(3, "an array of " + inside, at);
            } else {
                lookAtType(inside, at);
            }
            return;
        }
        if (type.getKind() == TypeKind.DECLARED && !HELD.contains(bare(type)) && !bare(type).startsWith(ownName())) {
            breaks(3, "the type " + type, at);
        }
    }

    private String ownName() {
        return ((ClassTree) unit.getTypeDecls().get(0)).getSimpleName().toString();
    }

    private static String bare(TypeMirror type) {
        return type.toString().replaceAll("<.*>", "");
    }

    @Override
    public Void visitVariable(VariableTree tree, Void none) {
        Element element = trees.getElement(getCurrentPath());
        if (element == null) {
            return super.visitVariable(tree, none);
        }
        TypeMirror type = element.asType();
        lookAtType(type, tree);
        boolean isField = element.getKind() == ElementKind.FIELD;
        if (isField && element.getModifiers().contains(Modifier.STATIC)) {
            boolean written = tree.getInitializer() instanceof NewArrayTree row && row.getInitializers() != null;
            boolean held = CONSTANT.contains(type.toString()) || CONSTANT_ROWS.contains(type.toString()) && written;
            if (!held || !element.getModifiers().contains(Modifier.FINAL)) {
                breaks(5, "the static field " + tree.getName(), tree);
            }
        }
        return super.visitVariable(tree, none);
    }

    @Override
    public Void visitAssignment(AssignmentTree tree, Void none) {
        lookAtTarget(tree.getVariable());
        return super.visitAssignment(tree, none);
    }

    @Override
    public Void visitCompoundAssignment(CompoundAssignmentTree tree, Void none) {
        lookAtTarget(tree.getVariable());
        if (isText(tree.getVariable())) {
            breaks(10, "a text joined by +=", tree);
        }
        return super.visitCompoundAssignment(tree, none);
    }

    private void lookAtTarget(ExpressionTree target) {
        ExpressionTree row = target;
        while (row instanceof com.sun.source.tree.ArrayAccessTree access) {
            row = access.getExpression();
        }
        Element element = elementOf(row);
        if (element != null && element.getKind() == ElementKind.FIELD
                && element.getModifiers().contains(Modifier.STATIC)) {
            breaks(5, "a static row is changed", target);
        }
    }

    private boolean isText(Tree tree) {
        TypeMirror type = typeOf(tree);
        return type != null && type.toString().equals("java.lang.String");
    }

    private boolean isWholeNumberObject(Tree tree) {
        TypeMirror type = typeOf(tree);
        return type != null && type.toString().equals("java.lang.Integer");
    }

    @Override
    public Void visitBinary(BinaryTree tree, Void none) {
        boolean texts = isText(tree.getLeftOperand()) || isText(tree.getRightOperand());
        if (tree.getKind() == Tree.Kind.PLUS && texts) {
            breaks(10, "texts joined by +", tree);
        }
        boolean compares = tree.getKind() == Tree.Kind.EQUAL_TO || tree.getKind() == Tree.Kind.NOT_EQUAL_TO;
        boolean both = isText(tree.getLeftOperand()) && isText(tree.getRightOperand())
                || isWholeNumberObject(tree.getLeftOperand()) && isWholeNumberObject(tree.getRightOperand());
        if (compares && both) {
            breaks(6, "two Strings or Integers compared by " + tree.getKind(), tree);
        }
        return super.visitBinary(tree, none);
    }

    @Override
    public Void visitMethodInvocation(MethodInvocationTree tree, Void none) {
        Element called = elementOf(tree);
        if (called == null) {
            breaks(4, "a call of nobody knows what", tree);
            return super.visitMethodInvocation(tree, none);
        }
        String owner = nameOf(called.getEnclosingElement());
        String name = called.getSimpleName().toString();
        boolean ofRow = tree.getMethodSelect() instanceof MemberSelectTree select
                && typeOf(select.getExpression()) instanceof ArrayType;
        boolean ofSuper = name.equals("<init>") && owner.equals("java.lang.Object");
        if (isOwn(called)) {
            addCall(called);
            if (isInConstructor() && !called.getModifiers().contains(Modifier.STATIC) && !name.equals("<init>")) {
                breaks(12, "a constructor calls " + name, tree);
            }
        } else if (!ofSuper && !(ofRow && name.equals("clone"))
                && !LIBRARY.getOrDefault(owner, Set.of()).contains(name)) {
            breaks(4, "a call of " + owner + "." + name, tree);
        }
        return super.visitMethodInvocation(tree, none);
    }

    private void addCall(Element called) {
        Element caller = methodAround();
        if (caller != null) {
            calls.computeIfAbsent(caller, k -> new LinkedHashSet<>()).add(called);
        }
    }

    private boolean isInConstructor() {
        Element around = methodAround();
        return around != null && around.getKind() == ElementKind.CONSTRUCTOR;
    }

    @Override
    public Void visitNewClass(NewClassTree tree, Void none) {
        Element made = elementOf(tree);
        if (made != null && isOwn(made)) {
            addCall(made);
        } else if (made == null || !MADE.contains(nameOf(made.getEnclosingElement()))) {
            breaks(4, "new " + tree.getIdentifier(), tree);
        }
        return super.visitNewClass(tree, none);
    }

    @Override
    public Void visitMemberSelect(MemberSelectTree tree, Void none) {
        Element element = trees.getElement(getCurrentPath());
        boolean isField = element != null && element.getKind() == ElementKind.FIELD;
        boolean isLength = typeOf(tree.getExpression()) instanceof ArrayType;
        if (isField && !isLength && !isOwn(element)) {
            breaks(4, "the library's " + tree, tree);
        }
        return super.visitMemberSelect(tree, none);
    }

    @Override
    public Void visitIdentifier(IdentifierTree tree, Void none) {
        Element element = trees.getElement(getCurrentPath());
        if (element instanceof TypeElement && !isOwn(element) && !LIBRARY.containsKey(nameOf(element))) {
            breaks(4, "the library's " + tree, tree);
        }
        return super.visitIdentifier(tree, none);
    }

    @Override
    public Void visitForLoop(ForLoopTree tree, Void none) {
        if (tree.getCondition() == null) {
            breaks(9, "a loop without a bound", tree);
        }
        return super.visitForLoop(tree, none);
    }

    @Override
    public Void visitLambdaExpression(LambdaExpressionTree tree, Void none) {
        breaks(2, "a lambda", tree);
        return super.visitLambdaExpression(tree, none);
    }

    @Override
    public Void visitMemberReference(MemberReferenceTree tree, Void none) {
        breaks(2, "a method reference", tree);
        return super.visitMemberReference(tree, none);
    }

    @Override
    public Void visitAnnotation(AnnotationTree tree, Void none) {
        return null;
    }

    @Override
    public Void visitThrow(ThrowTree tree, Void none) {
        breaks(6, "throw", tree);
        return super.visitThrow(tree, none);
    }

    @Override
    public Void visitTry(TryTree tree, Void none) {
        breaks(6, "try", tree);
        return super.visitTry(tree, none);
    }

    @Override
    public Void visitSynchronized(SynchronizedTree tree, Void none) {
        breaks(6, "synchronized", tree);
        return super.visitSynchronized(tree, none);
    }

    @Override
    public Void visitAssert(AssertTree tree, Void none) {
        breaks(6, "assert", tree);
        return super.visitAssert(tree, none);
    }

    /** Each method once on a way, so what calls itself counts as one level, and a ring of methods as its methods. */
    private void lookAtCalls() {
        Set<String> said = new TreeSet<>();
        for (Element method : calls.keySet()) {
            List<Element> longest = longestWay(method, new ArrayList<>());
            if (longest.size() > MOST_DEEP) {
                said.add("rule 11: calls " + longest.size() + " deep: " + longest);
            }
        }
        broken.addAll(said);
    }

    private List<Element> longestWay(Element method, List<Element> way) {
        if (way.contains(method)) {
            return new ArrayList<>(way);
        }
        way.add(method);
        List<Element> longest = new ArrayList<>(way);
        for (Element called : calls.getOrDefault(method, Set.of())) {
            List<Element> found = longestWay(called, way);
            if (found.size() > longest.size()) {
                longest = found;
            }
        }
        way.remove(way.size() - 1);
        return longest;
    }
}
