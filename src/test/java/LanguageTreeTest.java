import com.sun.source.tree.AssertTree;
import com.sun.source.tree.BinaryTree;
import com.sun.source.tree.ClassTree;
import com.sun.source.tree.CompilationUnitTree;
import com.sun.source.tree.CompoundAssignmentTree;
import com.sun.source.tree.DoWhileLoopTree;
import com.sun.source.tree.ForLoopTree;
import com.sun.source.tree.InstanceOfTree;
import com.sun.source.tree.LambdaExpressionTree;
import com.sun.source.tree.MemberReferenceTree;
import com.sun.source.tree.MethodInvocationTree;
import com.sun.source.tree.MethodTree;
import com.sun.source.tree.NewArrayTree;
import com.sun.source.tree.NewClassTree;
import com.sun.source.tree.SynchronizedTree;
import com.sun.source.tree.ThrowTree;
import com.sun.source.tree.Tree;
import com.sun.source.tree.TryTree;
import com.sun.source.tree.TypeCastTree;
import com.sun.source.tree.VariableTree;
import com.sun.source.tree.WhileLoopTree;
import com.sun.source.util.JavacTask;
import com.sun.source.util.TreePath;
import com.sun.source.util.TreePathScanner;
import com.sun.source.util.Trees;
import java.io.IOException;
import java.nio.file.Path;
import java.util.HashMap;
import java.util.HashSet;
import java.util.List;
import java.util.Map;
import java.util.Set;
import java.util.TreeMap;
import java.util.TreeSet;
import javax.lang.model.element.Element;
import javax.lang.model.element.ElementKind;
import javax.lang.model.element.ExecutableElement;
import javax.lang.model.element.Modifier;
import javax.lang.model.element.VariableElement;
import javax.lang.model.type.ArrayType;
import javax.lang.model.type.TypeKind;
import javax.lang.model.type.TypeMirror;
import javax.tools.JavaCompiler;
import javax.tools.StandardJavaFileManager;
import javax.tools.ToolProvider;

/** What LANGUAGE.md rules out, as the compiler sees the source: types, calls of the library, how deep calls go. */
public final class LanguageTreeTest extends TreePathScanner<Void, Void> {
    private static final Path SOURCE = Path.of("src/main/java/CalendarReplicas.java");
    private static final String OWN = "CalendarReplicas";
    private static final int MOST_DEEP = 8;
    private static final Set<String> LIBRARY = Set.of("String.length()", "String.charAt(int)", "String.isEmpty()",
            "String.equals(java.lang.Object)", "String.indexOf(int)", "String.substring(int)",
            "String.substring(int,int)", "String.toCharArray()", "String.<init>(char[])", "StringBuilder.<init>()",
            "StringBuilder.append(char)", "StringBuilder.append(java.lang.String)", "StringBuilder.append(int)",
            "StringBuilder.charAt(int)", "StringBuilder.setCharAt(int,char)", "StringBuilder.setLength(int)",
            "StringBuilder.deleteCharAt(int)", "StringBuilder.reverse()", "StringBuilder.length()",
            "StringBuilder.toString()", "AbstractStringBuilder.charAt(int)", "AbstractStringBuilder.length()",
            "AbstractStringBuilder.setLength(int)", "System.arraycopy(java.lang.Object,int,java.lang.Object,int,int)");

    private final Trees trees;
    private final CompilationUnitTree unit;
    private final Map<String, Set<String>> calls = new TreeMap<>();
    private final Map<String, ExecutableElement> methods = new HashMap<>();
    private final Set<String> used = new TreeSet<>();
    private String method = "";
    private boolean making = true;
    private int classes;

    private LanguageTreeTest(Trees trees, CompilationUnitTree unit) {
        this.trees = trees;
        this.unit = unit;
    }

    public static void main(String[] args) throws IOException {
        JavaCompiler compiler = ToolProvider.getSystemJavaCompiler();
        try (StandardJavaFileManager files = compiler.getStandardFileManager(null, null, null)) {
            JavacTask task = (JavacTask) compiler.getTask(null, files, null, List.of("-proc:none"), null,
                    files.getJavaFileObjects(SOURCE));
            CompilationUnitTree unit = task.parse().iterator().next();
            task.analyze();
            LanguageTreeTest test = new LanguageTreeTest(Trees.instance(task), unit);
            test.scan(unit, null);
            test.whole();
        }
        Check.end();
    }

    private void not(String what, Tree tree) {
        long line = unit.getLineMap().getLineNumber(trees.getSourcePositions().getStartPosition(unit, tree));
        Check.isTrue("line " + line + ": " + what, false);
    }

    private void need(boolean holds, String what, Tree tree) {
        if (holds) {
            Check.isTrue(what, true);
        } else {
            not(what, tree);
        }
    }

    // ---- rules 1 and 2: the face, and the classes inside it

    private void whole() {
        Check.isTrue("no package", unit.getPackageName() == null);
        Check.due("imports", unit.getImports().size(), 0);
        Check.due("classes beside one another", unit.getTypeDecls().size(), 1);
        Check.isTrue(classes + " classes are at most 12", classes <= 12);
        Check.isTrue("something of the library is used: " + used, used.size() > 3);
        recursion();
        Map<String, Integer> depths = new HashMap<>();
        for (String name : calls.keySet()) {
            int depth = depth(name, depths);
            Check.isTrue("calls from " + name + " go " + depth + " deep", depth <= MOST_DEEP);
        }
    }

    @Override
    public Void visitClass(ClassTree tree, Void none) {
        classes++;
        Element element = trees.getElement(getCurrentPath());
        Tree parent = getCurrentPath().getParentPath().getLeaf();
        need(parent == unit || parent.getKind() == Tree.Kind.CLASS, "no class inside a method", tree);
        if (parent != unit) {
            need(element.getModifiers().contains(Modifier.STATIC), "a class inside is static", tree);
            need(!element.getModifiers().contains(Modifier.PUBLIC)
                    && !element.getModifiers().contains(Modifier.PROTECTED), "a class inside is not public", tree);
        }
        need(tree.getExtendsClause() != null || element.getModifiers().contains(Modifier.FINAL),
                "a class that none extends is final", tree);
        int fields = 0;
        for (Tree member : tree.getMembers()) {
            Element inside = trees.getElement(new TreePath(getCurrentPath(), member));
            need(member.getKind() != Tree.Kind.BLOCK, "no block beside the methods", member);
            if (inside != null && inside.getKind() == ElementKind.FIELD) {
                fields += inside.getModifiers().contains(Modifier.STATIC) ? 0 : 1;
            }
        }
        need(fields <= 20, fields + " fields are at most 20", tree);
        return super.visitClass(tree, none);
    }

    // ---- rules 3 to 5: types, the library, static fields

    private static boolean isNumber(TypeMirror type) {
        return type.getKind().isPrimitive();
    }

    private static boolean isOwn(TypeMirror type) {
        String name = type.toString();
        return type.getKind() == TypeKind.DECLARED && (name.equals(OWN) || name.startsWith(OWN + "."));
    }

    private static boolean isPlain(TypeMirror type) {
        return isNumber(type) || isOwn(type) || type.toString().equals("java.lang.String")
                || type.toString().equals("java.lang.StringBuilder");
    }

    private static boolean isAllowed(TypeMirror type) {
        if (type.getKind() != TypeKind.ARRAY) {
            return isPlain(type) || type.getKind() == TypeKind.VOID;
        }
        TypeMirror part = ((ArrayType) type).getComponentType();
        return isNumber(part) || isOwn(part)
                || part.getKind() == TypeKind.ARRAY && isNumber(((ArrayType) part).getComponentType());
    }

    @Override
    public Void visitVariable(VariableTree tree, Void none) {
        Element element = trees.getElement(getCurrentPath());
        need(isAllowed(element.asType()), "the type of " + element + ", " + element.asType(), tree);
        if (element.getKind() == ElementKind.FIELD && element.getModifiers().contains(Modifier.STATIC)) {
            need(element.getModifiers().contains(Modifier.FINAL), element + " is final", tree);
            need(((VariableElement) element).getConstantValue() != null, element + " is a constant", tree);
        }
        return super.visitVariable(tree, none);
    }

    private static boolean isMath(ExecutableElement element) {
        String owner = element.getEnclosingElement().getSimpleName().toString();
        boolean numbers = true;
        for (VariableElement parameter : element.getParameters()) {
            numbers &= parameter.asType().getKind() == TypeKind.INT || parameter.asType().getKind() == TypeKind.LONG;
        }
        return (owner.equals("Math") || owner.equals("Integer") || owner.equals("Long")) && numbers
                && element.getModifiers().contains(Modifier.STATIC) && isNumber(element.getReturnType())
                && !element.getSimpleName().toString().endsWith("Exact")
                && !element.getSimpleName().contentEquals("random");
    }

    private static String nameOf(ExecutableElement element) {
        return element.getEnclosingElement().getSimpleName() + "." + element;
    }

    private static String written(ExecutableElement element) {
        StringBuilder parameters = new StringBuilder();
        for (VariableElement parameter : element.getParameters()) {
            parameters.append(parameters.length() == 0 ? "" : ",").append(parameter.asType());
        }
        return element.getEnclosingElement().getSimpleName() + "." + element.getSimpleName() + "(" + parameters + ")";
    }

    private void called(ExecutableElement element, Tree tree) {
        if (isOwn(element.getEnclosingElement().asType())) {
            calls.computeIfAbsent(method, name -> new TreeSet<>()).add(nameOf(element));
            return;
        }
        String name = written(element);
        boolean object = name.equals("Object.<init>()");
        need(object || LIBRARY.contains(name) || isMath(element), "of the library, " + name, tree);
        if (!object) {
            used.add(name);
        }
    }

    @Override
    public Void visitMethodInvocation(MethodInvocationTree tree, Void none) {
        called((ExecutableElement) trees.getElement(getCurrentPath()), tree);
        return super.visitMethodInvocation(tree, none);
    }

    // ---- rules 6, 9 and 10: what there is not

    @Override
    public Void visitThrow(ThrowTree tree, Void none) {
        not("no throw", tree);
        return super.visitThrow(tree, none);
    }

    @Override
    public Void visitTry(TryTree tree, Void none) {
        not("no try", tree);
        return super.visitTry(tree, none);
    }

    @Override
    public Void visitAssert(AssertTree tree, Void none) {
        not("no assert", tree);
        return super.visitAssert(tree, none);
    }

    @Override
    public Void visitSynchronized(SynchronizedTree tree, Void none) {
        not("no synchronized", tree);
        return super.visitSynchronized(tree, none);
    }

    @Override
    public Void visitLambdaExpression(LambdaExpressionTree tree, Void none) {
        not("no lambda", tree);
        return super.visitLambdaExpression(tree, none);
    }

    @Override
    public Void visitMemberReference(MemberReferenceTree tree, Void none) {
        not("no method reference", tree);
        return super.visitMemberReference(tree, none);
    }

    @Override
    public Void visitInstanceOf(InstanceOfTree tree, Void none) {
        not("there is no kind of object to ask for", tree);
        return super.visitInstanceOf(tree, none);
    }

    @Override
    public Void visitTypeCast(TypeCastTree tree, Void none) {
        need(isNumber(trees.getTypeMirror(getCurrentPath())), "only numbers are cast", tree);
        return super.visitTypeCast(tree, none);
    }

    @Override
    public Void visitForLoop(ForLoopTree tree, Void none) {
        need(tree.getCondition() != null && !tree.getUpdate().isEmpty(), "a loop counts up to a bound", tree);
        return super.visitForLoop(tree, none);
    }

    @Override
    public Void visitWhileLoop(WhileLoopTree tree, Void none) {
        not("a loop without a counter", tree);
        return super.visitWhileLoop(tree, none);
    }

    @Override
    public Void visitDoWhileLoop(DoWhileLoopTree tree, Void none) {
        not("a loop without a counter", tree);
        return super.visitDoWhileLoop(tree, none);
    }

    private TypeMirror typeOf(Tree tree) {
        return trees.getTypeMirror(new TreePath(getCurrentPath(), tree));
    }

    @Override
    public Void visitBinary(BinaryTree tree, Void none) {
        TypeMirror left = typeOf(tree.getLeftOperand());
        TypeMirror right = typeOf(tree.getRightOperand());
        boolean texts = left.toString().equals("java.lang.String") || right.toString().equals("java.lang.String");
        need(!texts, "texts are neither joined by + nor compared by ==", tree);
        if (tree.getKind() == Tree.Kind.DIVIDE || tree.getKind() == Tree.Kind.REMAINDER) {
            need(isConstant(tree.getRightOperand()), "a divisor is a constant", tree);
        }
        return super.visitBinary(tree, none);
    }

    private boolean isConstant(Tree tree) {
        if (tree.getKind() == Tree.Kind.INT_LITERAL) {
            return true;
        }
        Element element = trees.getElement(new TreePath(getCurrentPath(), tree));
        return element instanceof VariableElement && ((VariableElement) element).getConstantValue() != null;
    }

    @Override
    public Void visitCompoundAssignment(CompoundAssignmentTree tree, Void none) {
        need(isNumber(typeOf(tree.getVariable())), "texts are not joined by +=", tree);
        need(tree.getKind() != Tree.Kind.DIVIDE_ASSIGNMENT && tree.getKind() != Tree.Kind.REMAINDER_ASSIGNMENT,
                "nothing is divided in its place", tree);
        return super.visitCompoundAssignment(tree, none);
    }

    // ---- rules 8, 11 and 12: methods, how deep they go, and what they make

    @Override
    public Void visitMethod(MethodTree tree, Void none) {
        ExecutableElement element = (ExecutableElement) trees.getElement(getCurrentPath());
        String before = method;
        method = nameOf(element);
        making = element.getKind() == ElementKind.CONSTRUCTOR;
        methods.put(method, element);
        calls.computeIfAbsent(method, name -> new TreeSet<>());
        need(isAllowed(element.getReturnType()), "the type that " + method + " returns", tree);
        need(element.getParameters().size() <= 7, method + " has at most 7 parameters", tree);
        need(element.getThrownTypes().isEmpty(), method + " throws nothing", tree);
        need(lines(tree) <= 60, method + " has at most 60 lines", tree);
        super.visitMethod(tree, none);
        making = true;
        method = before;
        return null;
    }

    private long lines(Tree tree) {
        long first = trees.getSourcePositions().getStartPosition(unit, tree);
        long last = trees.getSourcePositions().getEndPosition(unit, tree);
        return unit.getLineMap().getLineNumber(Math.max(last, first)) - unit.getLineMap().getLineNumber(first) + 1;
    }

    /** This project makes all that it needs in constructors, and uses it again: so calls fill no room. */
    @Override
    public Void visitNewClass(NewClassTree tree, Void none) {
        need(tree.getClassBody() == null, "no class without a name", tree);
        need(making, "objects are made in constructors only", tree);
        called((ExecutableElement) trees.getElement(getCurrentPath()), tree);
        return super.visitNewClass(tree, none);
    }

    @Override
    public Void visitNewArray(NewArrayTree tree, Void none) {
        need(making, "arrays are made in constructors only", tree);
        return super.visitNewArray(tree, none);
    }

    private void recursion() {
        int found = 0;
        for (String name : calls.keySet()) {
            if (reaches(name, name, new HashSet<>())) {
                found++;
                Check.isTrue(name + " calls itself and not by way of others", calls.get(name).contains(name));
                ExecutableElement element = methods.get(name);
                Check.isTrue(name + ", which calls itself, is private and static", element != null
                        && element.getModifiers().containsAll(Set.of(Modifier.PRIVATE, Modifier.STATIC)));
            }
        }
        Check.due("methods that call themselves", found, 1);
    }

    private boolean reaches(String from, String to, Set<String> seen) {
        for (String next : calls.getOrDefault(from, Set.of())) {
            if (next.equals(to) || seen.add(next) && reaches(next, to, seen)) {
                return true;
            }
        }
        return false;
    }

    /** How many calls of own methods stand open at once, that of a method by itself counted once. */
    private int depth(String name, Map<String, Integer> depths) {
        if (!depths.containsKey(name)) {
            depths.put(name, 0);
            int most = 0;
            for (String next : calls.getOrDefault(name, Set.of())) {
                most = Math.max(most, next.equals(name) ? 0 : depth(next, depths));
            }
            depths.put(name, most + 1);
        }
        return depths.get(name);
    }
}
