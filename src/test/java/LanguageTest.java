import com.sun.source.tree.AssertTree;
import com.sun.source.tree.AssignmentTree;
import com.sun.source.tree.BinaryTree;
import com.sun.source.tree.BlockTree;
import com.sun.source.tree.ClassTree;
import com.sun.source.tree.CompilationUnitTree;
import com.sun.source.tree.CompoundAssignmentTree;
import com.sun.source.tree.DoWhileLoopTree;
import com.sun.source.tree.ExpressionTree;
import com.sun.source.tree.ForLoopTree;
import com.sun.source.tree.IdentifierTree;
import com.sun.source.tree.InstanceOfTree;
import com.sun.source.tree.LambdaExpressionTree;
import com.sun.source.tree.LiteralTree;
import com.sun.source.tree.MemberReferenceTree;
import com.sun.source.tree.MemberSelectTree;
import com.sun.source.tree.MethodInvocationTree;
import com.sun.source.tree.MethodTree;
import com.sun.source.tree.NewArrayTree;
import com.sun.source.tree.NewClassTree;
import com.sun.source.tree.ParenthesizedTree;
import com.sun.source.tree.SynchronizedTree;
import com.sun.source.tree.ThrowTree;
import com.sun.source.tree.Tree;
import com.sun.source.tree.TryTree;
import com.sun.source.tree.TypeCastTree;
import com.sun.source.tree.UnaryTree;
import com.sun.source.tree.VariableTree;
import com.sun.source.tree.WhileLoopTree;
import com.sun.source.util.JavacTask;
import com.sun.source.util.TreePath;
import com.sun.source.util.TreePathScanner;
import com.sun.source.util.Trees;
import java.io.IOException;
import java.nio.file.Files;
import java.nio.file.Path;
import java.util.HashMap;
import java.util.HashSet;
import java.util.List;
import java.util.Map;
import java.util.Set;
import java.util.TreeMap;
import java.util.TreeSet;
import javax.lang.model.element.Element;
import javax.lang.model.element.ElementKind;
import javax.lang.model.element.Modifier;
import javax.lang.model.element.TypeElement;
import javax.lang.model.type.TypeKind;
import javax.lang.model.type.TypeMirror;
import javax.tools.JavaCompiler;
import javax.tools.StandardJavaFileManager;
import javax.tools.ToolProvider;

/** The rules of LANGUAGE.md that the file's own tree can tell, number by number; somewhat sharper than they are. */
public final class LanguageTest extends TreePathScanner<Void, Void> {
    private static final Path SOURCE = Path.of("src/main/java/WheelCrane.java");
    private static final Set<String> LIBRARY = Set.of("java.lang.Math.abs", "java.lang.Math.min", "java.lang.Math.max",
            "java.lang.Integer.bitCount", "java.util.Arrays.fill");
    private static final int MOST_DEEP = 8, MOST_LINES = 60, MOST_PARAMETERS = 7, MOST_CLASSES = 12, MOST_FIELDS = 20;

    private final CompilationUnitTree unit;
    private final Trees trees;
    private final Set<String> publicNames = new HashSet<>();
    private final Map<String, Set<String>> calls = new TreeMap<>();
    private final Set<String> privateStatics = new HashSet<>();
    private final Map<String, Integer> depths = new HashMap<>();
    private String method = "";
    private int loops;
    private int classes;
    private int wrong;

    private LanguageTest(CompilationUnitTree unit, Trees trees) {
        this.unit = unit;
        this.trees = trees;
    }

    public static void main(String[] args) throws IOException {
        JavaCompiler compiler = ToolProvider.getSystemJavaCompiler();
        StandardJavaFileManager files = compiler.getStandardFileManager(null, null, null);
        JavacTask task = (JavacTask) compiler.getTask(null, files, null, List.of("-proc:none"), null,
                files.getJavaFileObjects(SOURCE));
        CompilationUnitTree unit = task.parse().iterator().next();
        task.analyze();
        LanguageTest test = new LanguageTest(unit, Trees.instance(task));
        test.look();
        System.out.println(test.wrong == 0 ? "the file keeps to the rules that were looked at" : test.wrong + " rules are broken");
        System.exit(test.wrong == 0 ? 0 : 1);
    }

    private void look() throws IOException {
        hold(unit.getPackage() == null, unit, "the file has no package line");
        hold(unit.getTypeDecls().size() == 1, unit, "one public class");
        for (Tree imported : unit.getImports()) {
            hold(imported.toString().trim().equals("import java.util.Arrays;"), imported, "rule 4: " + imported);
        }
        for (char sign : Files.readString(SOURCE).toCharArray()) hold(sign < 128, unit, "rule 3: the sign " + (int) sign);
        for (Tree member : ((ClassTree) unit.getTypeDecls().get(0)).getMembers()) {
            boolean isPublic = member instanceof MethodTree it && it.getModifiers().getFlags().contains(Modifier.PUBLIC);
            if (isPublic) publicNames.add(((MethodTree) member).getName().toString());
        }
        scan(unit, null);
        hold(classes <= MOST_CLASSES, unit, "rule 11: " + classes + " classes");
        checkCalls();
    }

    private void hold(boolean good, Tree where, String what) {
        if (!good) {
            wrong++;
            System.out.println("line " + lineOf(startOf(where)) + ": " + what);
        }
    }

    private long startOf(Tree tree) {
        return trees.getSourcePositions().getStartPosition(unit, tree);
    }

    private long lineOf(long position) {
        return position < 0 ? 0 : unit.getLineMap().getLineNumber(position);
    }

    private TypeMirror typeOf(Tree tree) {
        return trees.getTypeMirror(new TreePath(getCurrentPath(), tree));
    }

    private static String nameOf(Element member) {
        return ((TypeElement) member.getEnclosingElement()).getQualifiedName() + "." + member.getSimpleName();
    }

    private static boolean isOwn(Element member) {
        return nameOf(member).startsWith("WheelCrane.");
    }

    // ---- rules 1, 2, 11: classes and methods

    @Override public Void visitClass(ClassTree tree, Void none) {
        classes++;
        boolean isNested = getCurrentPath().getParentPath().getLeaf() instanceof ClassTree;
        Set<Modifier> flags = tree.getModifiers().getFlags();
        boolean isOuter = getCurrentPath().getParentPath().getLeaf() == unit;
        hold(isOuter || isNested && flags.contains(Modifier.STATIC), tree, "rule 2: a class that is not static and nested");
        hold(isOuter || !flags.contains(Modifier.PUBLIC) && !flags.contains(Modifier.PROTECTED), tree, "rule 1: an open class");
        hold(tree.getTypeParameters().isEmpty() && tree.getExtendsClause() == null, tree, "rules 2, 3: kinds of classes");
        int fields = 0;
        for (Tree member : tree.getMembers()) {
            if (member instanceof VariableTree field && !field.getModifiers().getFlags().contains(Modifier.STATIC)) fields++;
            hold(!(member instanceof BlockTree), member, "rule 5: an initialiser block");
        }
        hold(fields <= MOST_FIELDS, tree, "rule 11: " + fields + " fields");
        return super.visitClass(tree, none);
    }

    @Override public Void visitMethod(MethodTree tree, Void none) {
        Element element = trees.getElement(getCurrentPath());
        Set<Modifier> flags = tree.getModifiers().getFlags();
        String name = tree.getName().toString();
        method = nameOf(element);
        calls.putIfAbsent(method, new TreeSet<>());
        if (flags.contains(Modifier.PRIVATE) && flags.contains(Modifier.STATIC)) privateStatics.add(method);
        hold(flags.contains(Modifier.PUBLIC) || !publicNames.contains(name) || name.equals("<init>"), tree,
                "rule 1: another method bears the public name " + name);
        hold(!Set.of("equals", "hashCode", "toString", "finalize").contains(name), tree, "rule 6: " + name);
        hold(tree.getParameters().size() <= MOST_PARAMETERS, tree, "rule 11: parameters of " + name);
        hold(tree.getThrows().isEmpty(), tree, "rule 6: throws");
        long last = trees.getSourcePositions().getEndPosition(unit, tree);
        long lines = last < 0 ? 0 : lineOf(last) - lineOf(startOf(tree)) + 1;
        hold(lines <= MOST_LINES, tree, "rule 11: " + lines + " lines of " + name);
        return super.visitMethod(tree, none);
    }

    // ---- rules 3, 5: types and fields

    @Override public Void visitVariable(VariableTree tree, Void none) {
        Element element = trees.getElement(getCurrentPath());
        hold(isGoodType(element.asType(), 0), tree, "rule 3: the type " + element.asType());
        if (element.getKind() == ElementKind.FIELD && element.getModifiers().contains(Modifier.STATIC)) {
            boolean isNumber = element.asType().getKind().isPrimitive() && tree.getInitializer() != null;
            hold(element.getModifiers().contains(Modifier.FINAL) && isNumber, tree, "rule 5: " + tree.getName());
        }
        return super.visitVariable(tree, none);
    }

    /** Numbers, rows and tables of them, and the file's own classes: no more is used. */
    private static boolean isGoodType(TypeMirror type, int dimensions) {
        if (type.getKind() == TypeKind.ARRAY) {
            return dimensions < 2 && isGoodType(((javax.lang.model.type.ArrayType) type).getComponentType(), dimensions + 1);
        }
        boolean isNumber = Set.of(TypeKind.INT, TypeKind.LONG, TypeKind.BOOLEAN).contains(type.getKind());
        return isNumber || dimensions == 0 && type.toString().startsWith("WheelCrane.");
    }

    // ---- rules 4, 8, 12: calls and what is made

    @Override public Void visitMethodInvocation(MethodInvocationTree tree, Void none) {
        Element called = trees.getElement(new TreePath(getCurrentPath(), tree.getMethodSelect()));
        boolean isSuper = tree.getMethodSelect().toString().equals("super");
        if (isOwn(called)) {
            addCall(nameOf(called));
            hold(!method.endsWith("<init>"), tree, "rule 12: a constructor calls " + called);
        } else {
            hold(isSuper || LIBRARY.contains(nameOf(called)), tree, "rule 4: " + nameOf(called));
        }
        return super.visitMethodInvocation(tree, none);
    }

    @Override public Void visitNewClass(NewClassTree tree, Void none) {
        Element made = trees.getElement(getCurrentPath());
        hold(isOwn(made), tree, "rule 4: new " + nameOf(made));
        hold(loops == 0, tree, "rule 12: an object is made in a loop");
        hold(tree.getClassBody() == null, tree, "rule 2: an anonymous class");
        addCall(nameOf(made));
        return super.visitNewClass(tree, none);
    }

    @Override public Void visitNewArray(NewArrayTree tree, Void none) {
        hold(loops == 0, tree, "rule 12: an array is made in a loop");
        return super.visitNewArray(tree, none);
    }

    @Override public Void visitIdentifier(IdentifierTree tree, Void none) {
        boolean isAlone = !(getCurrentPath().getParentPath().getLeaf() instanceof MemberSelectTree);
        hold(!tree.getName().contentEquals("this") || !isAlone, tree, "rule 12: this is handed out");
        return super.visitIdentifier(tree, none);
    }

    private void addCall(String called) {
        calls.computeIfAbsent(method, name -> new TreeSet<>()).add(called);
    }

    /** No chain of calls is too deep, and none comes back but a private static method to itself. */
    private void checkCalls() {
        for (String name : calls.keySet()) {
            int deep = depthOf(name, new HashSet<>());
            hold(deep <= MOST_DEEP, unit, "rule 11: calls go " + deep + " deep from " + name);
        }
    }

    private int depthOf(String name, Set<String> open) {
        if (depths.containsKey(name)) return depths.get(name);
        hold(open.add(name), unit, "rule 8: calls go round through " + name);
        int deepest = 0;
        for (String next : calls.getOrDefault(name, Set.of())) {
            if (next.equals(name)) hold(privateStatics.contains(name), unit, "rule 8: " + name + " calls itself");
            else if (!open.contains(next)) deepest = Math.max(deepest, depthOf(next, open));
            else hold(false, unit, "rule 8: calls go round through " + next);
        }
        open.remove(name);
        depths.put(name, deepest + 1);
        return deepest + 1;
    }

    // ---- rules 2, 6, 10: words that are not used

    @Override public Void visitLambdaExpression(LambdaExpressionTree tree, Void none) {
        hold(false, tree, "rule 2: a lambda");
        return null;
    }

    @Override public Void visitMemberReference(MemberReferenceTree tree, Void none) {
        hold(false, tree, "rule 2: a method reference");
        return null;
    }

    @Override public Void visitThrow(ThrowTree tree, Void none) {
        hold(false, tree, "rule 6: throw");
        return null;
    }

    @Override public Void visitTry(TryTree tree, Void none) {
        hold(false, tree, "rule 6: try");
        return null;
    }

    @Override public Void visitSynchronized(SynchronizedTree tree, Void none) {
        hold(false, tree, "rule 6: synchronized");
        return null;
    }

    @Override public Void visitAssert(AssertTree tree, Void none) {
        hold(false, tree, "rule 6: assert");
        return null;
    }

    @Override public Void visitInstanceOf(InstanceOfTree tree, Void none) {
        hold(false, tree, "rule 6: no class here has kinds to tell");
        return null;
    }

    @Override public Void visitTypeCast(TypeCastTree tree, Void none) {
        hold(typeOf(tree.getType()).getKind().isPrimitive(), tree, "rule 6: a cast to " + tree.getType());
        return super.visitTypeCast(tree, none);
    }

    // ---- rule 7: divisors

    @Override public Void visitBinary(BinaryTree tree, Void none) {
        boolean divides = tree.getKind() == Tree.Kind.DIVIDE || tree.getKind() == Tree.Kind.REMAINDER;
        hold(!divides || isSafeDivisor(tree.getRightOperand()), tree, "rule 7: divided by " + tree.getRightOperand());
        for (ExpressionTree side : List.of(tree.getLeftOperand(), tree.getRightOperand())) {
            hold(typeOf(side).getKind().isPrimitive(), tree, "rules 6, 10: " + tree);
        }
        return super.visitBinary(tree, none);
    }

    @Override public Void visitCompoundAssignment(CompoundAssignmentTree tree, Void none) {
        boolean divides = tree.getKind() == Tree.Kind.DIVIDE_ASSIGNMENT || tree.getKind() == Tree.Kind.REMAINDER_ASSIGNMENT;
        hold(!divides || isSafeDivisor(tree.getExpression()), tree, "rule 7: divided by " + tree.getExpression());
        return super.visitCompoundAssignment(tree, none);
    }

    /** A number other than 0, or a name that the same method holds against 0. */
    private boolean isSafeDivisor(ExpressionTree divisor) {
        if (divisor instanceof LiteralTree number) return !number.toString().matches("0L?");
        if (!(divisor instanceof IdentifierTree)) return false;
        TreePath path = getCurrentPath();
        while (!(path.getLeaf() instanceof MethodTree)) path = path.getParentPath();
        return path.getLeaf().toString().matches("(?s).*\\b" + divisor + " [!=]= 0\\b.*");
    }

    // ---- rule 9: loops

    @Override public Void visitForLoop(ForLoopTree tree, Void none) {
        checkLoop(tree, tree.getCondition());
        loops++;
        super.visitForLoop(tree, none);
        loops--;
        return null;
    }

    @Override public Void visitWhileLoop(WhileLoopTree tree, Void none) {
        checkLoop(tree, tree.getCondition());
        loops++;
        super.visitWhileLoop(tree, none);
        loops--;
        return null;
    }

    @Override public Void visitDoWhileLoop(DoWhileLoopTree tree, Void none) {
        hold(false, tree, "rule 9: no loop here needs do");
        return null;
    }

    /** Some counter stands against a bound in what all of the condition needs, and only ever goes one way in the loop. */
    private void checkLoop(Tree loop, ExpressionTree condition) {
        Set<String> up = new HashSet<>(), down = new HashSet<>(), set = new HashSet<>();
        new TreePathScanner<Void, Void>() {
            @Override public Void visitUnary(UnaryTree tree, Void none) {
                if (tree.getKind() == Tree.Kind.POSTFIX_INCREMENT) up.add(tree.getExpression().toString());
                if (tree.getKind() == Tree.Kind.POSTFIX_DECREMENT) down.add(tree.getExpression().toString());
                return super.visitUnary(tree, none);
            }

            @Override public Void visitCompoundAssignment(CompoundAssignmentTree tree, Void none) {
                set.add(tree.getVariable().toString());
                return super.visitCompoundAssignment(tree, none);
            }

            @Override public Void visitAssignment(AssignmentTree tree, Void none) {
                set.add(tree.getVariable().toString());
                return super.visitAssignment(tree, none);
            }
        }.scan(new TreePath(getCurrentPath(), loop), null);
        hold(condition != null && hasBound(condition, up, down, set), loop, "rule 9: no bound in " + condition);
    }

    private boolean hasBound(ExpressionTree condition, Set<String> up, Set<String> down, Set<String> set) {
        if (condition instanceof ParenthesizedTree inner) return hasBound(inner.getExpression(), up, down, set);
        if (!(condition instanceof BinaryTree pair)) return false;
        if (pair.getKind() == Tree.Kind.CONDITIONAL_AND) {
            return hasBound(pair.getLeftOperand(), up, down, set) || hasBound(pair.getRightOperand(), up, down, set);
        }
        String counter = pair.getLeftOperand().toString();
        boolean rises = pair.getKind() == Tree.Kind.LESS_THAN || pair.getKind() == Tree.Kind.LESS_THAN_EQUAL;
        boolean falls = pair.getKind() == Tree.Kind.GREATER_THAN || pair.getKind() == Tree.Kind.GREATER_THAN_EQUAL;
        boolean oneWay = rises && up.contains(counter) && !down.contains(counter)
                || falls && down.contains(counter) && !up.contains(counter);
        return oneWay && !set.contains(counter);
    }
}
