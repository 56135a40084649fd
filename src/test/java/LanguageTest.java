import com.sun.source.tree.AssertTree;
import com.sun.source.tree.BinaryTree;
import com.sun.source.tree.BlockTree;
import com.sun.source.tree.ClassTree;
import com.sun.source.tree.CompilationUnitTree;
import com.sun.source.tree.DoWhileLoopTree;
import com.sun.source.tree.ExpressionTree;
import com.sun.source.tree.ForLoopTree;
import com.sun.source.tree.ImportTree;
import com.sun.source.tree.InstanceOfTree;
import com.sun.source.tree.LambdaExpressionTree;
import com.sun.source.tree.MemberReferenceTree;
import com.sun.source.tree.MethodInvocationTree;
import com.sun.source.tree.MethodTree;
import com.sun.source.tree.NewArrayTree;
import com.sun.source.tree.NewClassTree;
import com.sun.source.tree.PackageTree;
import com.sun.source.tree.SynchronizedTree;
import com.sun.source.tree.ThrowTree;
import com.sun.source.tree.Tree;
import com.sun.source.tree.TryTree;
import com.sun.source.tree.TypeCastTree;
import com.sun.source.tree.VariableTree;
import com.sun.source.tree.WhileLoopTree;
import com.sun.source.util.JavacTask;
import com.sun.source.util.TreePath;
import com.sun.source.util.TreePathScanner;
import com.sun.source.util.Trees;
import java.io.IOException;
import java.nio.charset.StandardCharsets;
import java.nio.file.Files;
import java.nio.file.Path;
import java.util.ArrayList;
import java.util.HashMap;
import java.util.HashSet;
import java.util.LinkedHashMap;
import java.util.LinkedHashSet;
import java.util.List;
import java.util.Map;
import java.util.Set;
import javax.lang.model.element.Element;
import javax.lang.model.element.ElementKind;
import javax.lang.model.element.ExecutableElement;
import javax.lang.model.element.Modifier;
import javax.lang.model.element.VariableElement;
import javax.lang.model.type.TypeKind;
import javax.lang.model.type.TypeMirror;
import javax.tools.JavaCompiler;
import javax.tools.StandardJavaFileManager;
import javax.tools.ToolProvider;

/**
 * Whether the class keeps to LANGUAGE.md, as far as its source can show it; the rules' numbers are told. The
 * class uses less than the rules leave (no list, no text builder, no enum, no double), and so does this test allow
 * less. That no call throws (rule 7) is for AnyCallsTest.
 */
public final class LanguageTest extends TreePathScanner<Void, Void> {
    private static final Path SOURCE = Path.of("src/main/java/RootJudge.java");
    private static final Set<String> LIBRARY = Set.of("java.lang.Math.abs", "java.lang.Math.max", "java.lang.Math.min",
        "java.lang.Math.floorDiv", "java.lang.Math.floorMod", "java.lang.Long.compare", "java.lang.String.indexOf",
        "java.lang.System.arraycopy");
    private static final Set<String> PLAIN = Set.of("int", "long", "byte", "char", "boolean", "short");
    private static final Set<String> CONSTANTS = Set.of("int", "long", "boolean", "char", "java.lang.String", "int[]",
        "long[]", "char[]", "byte[]");
    private static final int LEVELS = 11;

    private final Trees trees;
    private final CompilationUnitTree unit;
    private final List<String> broken = new ArrayList<>();
    private final Map<String, Integer> fieldsOf = new LinkedHashMap<>();
    private final Map<Element, Set<Element>> calls = new LinkedHashMap<>();
    private final Set<Element> openPaths = new HashSet<>();
    private final Set<Element> circular = new HashSet<>();
    private int looked = 0;

    private LanguageTest(Trees trees, CompilationUnitTree unit) {
        this.trees = trees;
        this.unit = unit;
    }

    public static void main(String[] args) throws IOException {
        JavaCompiler compiler = ToolProvider.getSystemJavaCompiler();
        try (StandardJavaFileManager files = compiler.getStandardFileManager(null, null, StandardCharsets.UTF_8)) {
            JavacTask task = (JavacTask) compiler.getTask(null, files, null, List.of("--release", "17", "-proc:none"), null,
                files.getJavaFileObjects(SOURCE));
            CompilationUnitTree unit = task.parse().iterator().next();
            task.analyze();
            LanguageTest test = new LanguageTest(Trees.instance(task), unit);
            test.scan(unit, null);
            test.wholeFile();
            test.callsOfOneAnother();
            test.end();
        }
    }

    private void end() {
        for (String line : broken) {
            System.out.println(line);
        }
        System.out.println(looked + " places looked at, " + broken.size() + " against a rule");
        System.exit(broken.isEmpty() && looked > 1000 ? 0 : 1);
    }

    private void keep(boolean kept, int rule, String what, Tree where) {
        looked++;
        if (!kept) {
            broken.add("rule " + rule + ", line " + lineOf(where, false) + ": " + what);
        }
    }

    private long lineOf(Tree tree, boolean atEnd) {
        if (tree == null) {
            return 0;
        }
        long start = trees.getSourcePositions().getStartPosition(unit, tree);
        long end = trees.getSourcePositions().getEndPosition(unit, tree);
        return unit.getLineMap().getLineNumber(atEnd ? end : start);
    }

    private Element here() {
        return trees.getElement(getCurrentPath());
    }

    private Tree around(Class<?> kind) {
        for (TreePath path = getCurrentPath().getParentPath(); path != null; path = path.getParentPath()) {
            if (kind.isInstance(path.getLeaf())) {
                return path.getLeaf();
            }
        }
        return null;
    }

    private boolean isOwn(Element element) {
        return element != null && element.toString().startsWith("RootJudge");
    }

    private boolean isOwnType(String name) {
        return name.startsWith("RootJudge.") && !name.endsWith("[]");
    }

    @Override
    public Void visitPackage(PackageTree tree, Void none) {
        keep(false, 1, "a package", tree);
        return null;
    }

    @Override
    public Void visitImport(ImportTree tree, Void none) {
        keep(false, 4, "an import", tree);
        return null;
    }

    @Override
    public Void visitClass(ClassTree tree, Void none) {
        Set<Modifier> flags = tree.getModifiers().getFlags();
        boolean outer = getCurrentPath().getParentPath().getLeaf() instanceof CompilationUnitTree;
        keep(tree.getKind() == Tree.Kind.CLASS, 2, tree.getSimpleName() + " is no class", tree);
        if (outer) {
            keep(flags.equals(Set.of(Modifier.PUBLIC, Modifier.FINAL)), 1, "the class is " + flags, tree);
        } else {
            keep(flags.contains(Modifier.STATIC), 2, tree.getSimpleName() + " is not static", tree);
            keep(!flags.contains(Modifier.PUBLIC) && !flags.contains(Modifier.PROTECTED), 1, "a class to be seen", tree);
            keep(around(MethodTree.class) == null, 2, "a local class", tree);
        }
        keep(tree.getExtendsClause() == null && tree.getImplementsClause().isEmpty(), 12, "may be overridden", tree);
        fieldsOf.put(tree.getSimpleName().toString(), 0);
        return super.visitClass(tree, none);
    }

    @Override
    public Void visitMethod(MethodTree tree, Void none) {
        Element method = here();
        calls.putIfAbsent(method, new LinkedHashSet<>());
        String name = tree.getName().toString();
        keep(tree.getParameters().size() <= 7, 11, name + " takes more than seven", tree);
        keep(lineOf(tree, true) - lineOf(tree, false) < 60, 11, name + " is long", tree);
        keep(!Set.of("equals", "hashCode", "toString", "finalize").contains(name), 6, name, tree);
        keep(tree.getThrows().isEmpty(), 6, name + " throws", tree);
        Set<Modifier> flags = tree.getModifiers().getFlags();
        boolean outer = method.getEnclosingElement().toString().equals("RootJudge");
        keep(!outer || flags.contains(Modifier.PUBLIC) || flags.contains(Modifier.PRIVATE), 1, name + " is seen", tree);
        return super.visitMethod(tree, none);
    }

    @Override
    public Void visitBlock(BlockTree tree, Void none) {
        keep(!(getCurrentPath().getParentPath().getLeaf() instanceof ClassTree), 5, "an initialiser block", tree);
        return super.visitBlock(tree, none);
    }

    @Override
    public Void visitVariable(VariableTree tree, Void none) {
        Element variable = here();
        String type = variable.asType().toString();
        String single = type.endsWith("[]") ? type.substring(0, type.length() - 2) : type;
        keep(PLAIN.contains(single) || isOwnType(single) || type.equals("java.lang.String"), 3, type, tree);
        if (variable.getKind() != ElementKind.FIELD) {
            return super.visitVariable(tree, none);
        }
        Set<Modifier> flags = tree.getModifiers().getFlags();
        if (flags.contains(Modifier.STATIC)) {
            keep(flags.contains(Modifier.FINAL), 5, variable + " is static and not final", tree);
            keep(CONSTANTS.contains(type) && tree.getInitializer() != null, 5, variable + " is no constant", tree);
        } else {
            String owner = variable.getEnclosingElement().getSimpleName().toString();
            fieldsOf.merge(owner, 1, Integer::sum);
        }
        boolean outer = variable.getEnclosingElement().toString().equals("RootJudge");
        keep(!outer || flags.contains(Modifier.PRIVATE) || Set.of("BAD", "NONE", "GREAT").contains(variable.toString()), 1,
            variable + " is seen", tree);
        return super.visitVariable(tree, none);
    }

    private Element methodAround() {
        Tree around = around(MethodTree.class);
        return around == null ? null : trees.getElement(trees.getPath(unit, around));
    }

    @Override
    public Void visitMethodInvocation(MethodInvocationTree tree, Void none) {
        Element called = here();
        if (isOwn(called.getEnclosingElement())) {
            calls.computeIfAbsent(methodAround(), key -> new LinkedHashSet<>()).add(called);
        } else if (called.getKind() != ElementKind.CONSTRUCTOR) {
            String name = called.getEnclosingElement() + "." + called.getSimpleName();
            keep(LIBRARY.contains(name), 4, name, tree);
        }
        return super.visitMethodInvocation(tree, none);
    }

    /** All that a judge needs is made with it, so that no call takes room. */
    private void madeInConstructor(Tree tree, boolean constant) {
        Element around = methodAround();
        boolean inConstructor = around != null && around.getKind() == ElementKind.CONSTRUCTOR;
        keep(inConstructor || constant && around == null, 12, "made outside a constructor", tree);
    }

    @Override
    public Void visitNewClass(NewClassTree tree, Void none) {
        keep(tree.getClassBody() == null, 2, "an anonymous class", tree);
        boolean own = isOwn(here().getEnclosingElement());
        keep(own, 4, "new " + tree.getIdentifier(), tree);
        madeInConstructor(tree, false);
        if (own && methodAround() != null) {
            calls.computeIfAbsent(methodAround(), key -> new LinkedHashSet<>()).add(here());
        }
        return super.visitNewClass(tree, none);
    }

    @Override
    public Void visitNewArray(NewArrayTree tree, Void none) {
        keep(tree.getDimensions().size() <= 1, 3, "an array of arrays", tree);
        madeInConstructor(tree, true);
        return super.visitNewArray(tree, none);
    }

    @Override
    public Void visitTypeCast(TypeCastTree tree, Void none) {
        TypeMirror type = trees.getTypeMirror(new TreePath(getCurrentPath(), tree.getType()));
        keep(type.getKind().isPrimitive(), 6, "a cast to " + type, tree);
        return super.visitTypeCast(tree, none);
    }

    @Override
    public Void visitBinary(BinaryTree tree, Void none) {
        for (ExpressionTree side : List.of(tree.getLeftOperand(), tree.getRightOperand())) {
            TypeMirror type = trees.getTypeMirror(new TreePath(getCurrentPath(), side));
            keep(type.getKind().isPrimitive(), 6, tree.getKind() + " of " + type, tree);
            keep(type.getKind() != TypeKind.DOUBLE && type.getKind() != TypeKind.FLOAT, 3, "no whole number", tree);
        }
        return super.visitBinary(tree, none);
    }

    private void hasEnd(ExpressionTree condition, Tree loop) {
        keep(condition != null && !condition.toString().matches("\\(?true\\)?"), 9, "a loop without an end", loop);
    }

    @Override
    public Void visitForLoop(ForLoopTree tree, Void none) {
        hasEnd(tree.getCondition(), tree);
        return super.visitForLoop(tree, none);
    }

    @Override
    public Void visitWhileLoop(WhileLoopTree tree, Void none) {
        hasEnd(tree.getCondition(), tree);
        return super.visitWhileLoop(tree, none);
    }

    @Override
    public Void visitDoWhileLoop(DoWhileLoopTree tree, Void none) {
        hasEnd(tree.getCondition(), tree);
        return super.visitDoWhileLoop(tree, none);
    }

    @Override
    public Void visitThrow(ThrowTree tree, Void none) {
        keep(false, 6, "throw", tree);
        return super.visitThrow(tree, none);
    }

    @Override
    public Void visitTry(TryTree tree, Void none) {
        keep(false, 6, "try", tree);
        return super.visitTry(tree, none);
    }

    @Override
    public Void visitSynchronized(SynchronizedTree tree, Void none) {
        keep(false, 6, "synchronized", tree);
        return super.visitSynchronized(tree, none);
    }

    @Override
    public Void visitAssert(AssertTree tree, Void none) {
        keep(false, 6, "assert", tree);
        return super.visitAssert(tree, none);
    }

    @Override
    public Void visitInstanceOf(InstanceOfTree tree, Void none) {
        keep(false, 6, "instanceof", tree);
        return super.visitInstanceOf(tree, none);
    }

    @Override
    public Void visitLambdaExpression(LambdaExpressionTree tree, Void none) {
        keep(false, 2, "a lambda", tree);
        return super.visitLambdaExpression(tree, none);
    }

    @Override
    public Void visitMemberReference(MemberReferenceTree tree, Void none) {
        keep(false, 2, "a method reference", tree);
        return super.visitMemberReference(tree, none);
    }

    private void wholeFile() throws IOException {
        keep(unit.getTypeDecls().size() == 1, 1, "more than one class in the file", unit);
        keep(fieldsOf.size() <= 12, 11, fieldsOf.size() + " classes", unit);
        for (Map.Entry<String, Integer> entry : fieldsOf.entrySet()) {
            keep(entry.getValue() <= 20, 11, entry.getKey() + " has " + entry.getValue() + " fields", unit);
        }
        for (byte sign : Files.readAllBytes(SOURCE)) {
            keep(sign == '\n' || sign >= 32 && sign < 127, 3, "the sign " + sign, unit);
        }
        Set<String> seen = new HashSet<>();
        for (Element method : calls.keySet()) {
            if (method.getModifiers().contains(Modifier.PUBLIC)) {
                seen.add(method.getSimpleName().toString());
            }
        }
        for (Element method : calls.keySet()) {
            boolean face = method.getModifiers().contains(Modifier.PUBLIC) || method.getKind() == ElementKind.CONSTRUCTOR;
            keep(face || !seen.contains(method.getSimpleName().toString()), 1, method + " bears a public name", unit);
        }
    }

    /** Whether a method comes back to itself by calls. */
    private boolean returnsTo(Element from, Element to, Set<Element> gone) {
        for (Element next : calls.getOrDefault(from, Set.of())) {
            if (next == to || gone.add(next) && returnsTo(next, to, gone)) {
                return true;
            }
        }
        return false;
    }

    private void callsOfOneAnother() {
        for (Element method : calls.keySet()) {
            if (returnsTo(method, method, new HashSet<>())) {
                circular.add(method);
                boolean carriesDepth = false;
                for (VariableElement parameter : ((ExecutableElement) method).getParameters()) {
                    carriesDepth = carriesDepth || parameter.getSimpleName().contentEquals("depth");
                }
                keep(carriesDepth, 8, method + " calls itself without a depth", unit);
                keep(method.getModifiers().contains(Modifier.PRIVATE), 8, method + " is not private", unit);
            }
        }
        for (Element method : calls.keySet()) {
            if (method.getModifiers().contains(Modifier.PUBLIC)) {
                int plain = longest(method, 0, new HashMap<>());
                keep(plain <= 8, 11, method + " goes " + plain + " calls deep", unit);
                int open = longest(method, LEVELS, new HashMap<>());
                keep(open < 300, 8, method + " has " + open + " calls open", unit);
            }
        }
    }

    /** The longest chain of calls from here; one that is part of a recursion counts so often as told. */
    private int longest(Element method, int recursion, Map<Element, Integer> known) {
        if (known.containsKey(method)) {
            return known.get(method);
        }
        int most = 0;
        openPaths.add(method);
        for (Element next : calls.getOrDefault(method, Set.of())) {
            if (!openPaths.contains(next)) {
                most = Math.max(most, longest(next, recursion, known));
            }
        }
        openPaths.remove(method);
        int length = most + (circular.contains(method) ? recursion : 1);
        if (!circular.contains(method)) {
            known.put(method, length);
        }
        return length;
    }
}
