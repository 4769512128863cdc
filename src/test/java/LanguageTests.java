import com.sun.source.tree.AssertTree;
import com.sun.source.tree.BinaryTree;
import com.sun.source.tree.ClassTree;
import com.sun.source.tree.CompilationUnitTree;
import com.sun.source.tree.CompoundAssignmentTree;
import com.sun.source.tree.DoWhileLoopTree;
import com.sun.source.tree.EnhancedForLoopTree;
import com.sun.source.tree.ForLoopTree;
import com.sun.source.tree.IdentifierTree;
import com.sun.source.tree.ImportTree;
import com.sun.source.tree.InstanceOfTree;
import com.sun.source.tree.LambdaExpressionTree;
import com.sun.source.tree.LiteralTree;
import com.sun.source.tree.MemberReferenceTree;
import com.sun.source.tree.MemberSelectTree;
import com.sun.source.tree.MethodInvocationTree;
import com.sun.source.tree.MethodTree;
import com.sun.source.tree.NewArrayTree;
import com.sun.source.tree.NewClassTree;
import com.sun.source.tree.ParenthesizedTree;
import com.sun.source.tree.SynchronizedTree;
import com.sun.source.tree.ThrowTree;
import com.sun.source.tree.Tree;
import com.sun.source.tree.TryTree;
import com.sun.source.tree.TypeCastTree;
import com.sun.source.tree.VariableTree;
import com.sun.source.tree.WhileLoopTree;
import com.sun.source.util.TreePath;
import com.sun.source.util.TreePathScanner;
import java.io.IOException;
import java.nio.file.Files;
import java.nio.file.Path;
import java.util.Set;
import java.util.TreeSet;
import javax.lang.model.element.Element;
import javax.lang.model.element.ElementKind;
import javax.lang.model.element.ExecutableElement;
import javax.lang.model.element.Modifier;
import javax.lang.model.element.VariableElement;
import javax.lang.model.type.TypeKind;

/**
 * The rules of ../shared/LANGUAGE.md, as far as they can be seen in the source; the number in front of a failure is
 * that of the rule. The class gets along with less than the rules allow, and where that makes a rule plainer to look
 * at, the less is what is asked for here: no text, no recursion, no cast to a class, no division, no object made by a
 * call. FaceTests look at rule 1 and RoughUseTests at rule 7.
 */
public final class LanguageTests extends TreePathScanner<Void, Void> {
    private static final String SOURCE = "src/main/java/CutRepairer.java";
    private static final int LONGEST_METHOD = 60;
    private static final int MOST_PARAMETERS = 7;
    private static final int MOST_CALLS_OPEN = 8;
    private static final int MOST_CLASSES = 12;
    private static final int MOST_FIELDS = 20;
    private static final Set<String> LIBRARY = Set.of("System.arraycopy", "Arrays.fill", "Math.min", "Math.max");
    private static final Set<String> TYPES = Set.of("int", "long", "char", "boolean", "int[]", "long[]", "char[]");

    private static final Due due = new Due();

    private final ReadSource source;
    private final CallDepth depth = new CallDepth();
    private final Set<String> ownClasses = new TreeSet<>();

    private LanguageTests(ReadSource source) {
        this.source = source;
    }

    /** Looks at the source of the class, or at another one that is named. */
    public static void main(String[] args) throws IOException {
        Path path = Path.of(args.length > 0 ? args[0] : SOURCE);
        due.is("4: signs from 1 to 127", Files.readString(path).chars().allMatch(c -> c > 0 && c < 128) ? 1 : 0, 1);
        ReadSource source = ReadSource.of(path);
        due.is("what the compiler says: " + source.complaints(), source.complaints().size(), 0);
        LanguageTests tests = new LanguageTests(source);
        for (Element one : source.classes()) {
            tests.ownClasses.add(one.asType().toString());
        }
        tests.scan(source.unit(), null);
        due.is("11: classes in the file", tests.ownClasses.size() <= MOST_CLASSES ? 1 : 0, 1);
        due.is("8: no method comes back to itself: " + tests.depth.circle(), tests.depth.circle().isEmpty() ? 1 : 0, 1);
        due.is("11: calls at most eight deep: " + tests.depth.deepest(),
            tests.depth.deepest().size() <= MOST_CALLS_OPEN ? 1 : 0, 1);
        due.end();
    }

    private void never(int rule, String what, Tree where) {
        due.is(rule + ": " + what + " in line " + source.lineOf(where), 1, 0);
    }

    private void asks(int rule, String what, Tree where, boolean kept) {
        due.is(rule + ": " + what + " in line " + source.lineOf(where), kept ? 1 : 0, 1);
    }

    // ---- the file, its classes and what they hold

    @Override
    public Void visitCompilationUnit(CompilationUnitTree unit, Void nothing) {
        asks(1, "no package line, one public class", unit, unit.getPackageName() == null
            && unit.getTypeDecls().size() == 1 && modifiersOf(unit.getTypeDecls().get(0)).contains(Modifier.PUBLIC));
        return super.visitCompilationUnit(unit, nothing);
    }

    @Override
    public Void visitImport(ImportTree tree, Void nothing) {
        asks(4, "import of " + tree.getQualifiedIdentifier(), tree,
            !tree.isStatic() && tree.getQualifiedIdentifier().toString().equals("java.util.Arrays"));
        return super.visitImport(tree, nothing);
    }

    @Override
    public Void visitClass(ClassTree tree, Void nothing) {
        Element element = elementHere();
        boolean inside = element.getEnclosingElement().getKind() != ElementKind.PACKAGE;
        asks(2, "a class inside is static, and neither local nor without a name", tree,
            !inside || element.getEnclosingElement().getKind() == ElementKind.CLASS
                && element.getModifiers().contains(Modifier.STATIC));
        int fields = 0;
        for (Tree member : tree.getMembers()) {
            asks(5, "no block outside a method", member, member.getKind() != Tree.Kind.BLOCK);
            fields += member instanceof VariableTree field && !field.getModifiers().getFlags().contains(Modifier.STATIC)
                ? 1 : 0;
        }
        asks(11, "fields of " + tree.getSimpleName(), tree, fields <= MOST_FIELDS);
        return super.visitClass(tree, nothing);
    }

    @Override
    public Void visitVariable(VariableTree tree, Void nothing) {
        String type = source.typeOf(getCurrentPath());
        asks(3, "type " + type + " of " + tree.getName(), tree, isAllowed(type));
        Element element = elementHere();
        if (element.getKind() == ElementKind.FIELD && element.getModifiers().contains(Modifier.STATIC)) {
            asks(5, "a static field is a constant", tree, ((VariableElement) element).getConstantValue() != null);
        }
        return super.visitVariable(tree, nothing);
    }

    /** Numbers, arrays of them of one dimension, and own classes and arrays of them. */
    private boolean isAllowed(String type) {
        return TYPES.contains(type) || ownClasses.contains(type.replaceFirst("\\[\\]$", ""));
    }

    @Override
    public Void visitMethod(MethodTree tree, Void nothing) {
        ExecutableElement element = (ExecutableElement) elementHere();
        if (element.getKind() == ElementKind.METHOD) {
            String type = element.getReturnType().toString();
            asks(3, "type that " + tree.getName() + " answers", tree, type.equals("void") || isAllowed(type));
        }
        asks(6, "no throws", tree, tree.getThrows().isEmpty());
        asks(6, "no synchronized", tree, !tree.getModifiers().getFlags().contains(Modifier.SYNCHRONIZED));
        asks(6, "no equals, hashCode or toString of its own", tree,
            !Set.of("equals", "hashCode", "toString").contains(tree.getName().toString()));
        asks(11, "parameters of " + tree.getName(), tree, tree.getParameters().size() <= MOST_PARAMETERS);
        asks(11, "lines of " + tree.getName(), tree, source.linesOf(tree) <= LONGEST_METHOD);
        depth.addMethod(element);
        return super.visitMethod(tree, nothing);
    }

    // ---- what is called and made

    @Override
    public Void visitMethodInvocation(MethodInvocationTree tree, Void nothing) {
        Element called = source.elementOf(new TreePath(getCurrentPath(), tree.getMethodSelect()));
        Element owner = called.getEnclosingElement();
        if (ownClasses.contains(owner.asType().toString())) {
            Element caller = source.methodAround(getCurrentPath());
            asks(8, "call outside a method", tree, caller != null);
            if (caller != null) {
                depth.addCall(caller, called);
            }
        } else if (called.getKind() != ElementKind.CONSTRUCTOR) {
            // (The constructors that are left are super(), which the compiler itself puts in.)
            String name = owner.getSimpleName() + "." + called.getSimpleName();
            asks(4, "call of " + name, tree, LIBRARY.contains(name));
        }
        return super.visitMethodInvocation(tree, nothing);
    }

    @Override
    public Void visitNewClass(NewClassTree tree, Void nothing) {
        asks(2, "no class without a name", tree, tree.getClassBody() == null);
        asks(4, "object of the library made", tree, ownClasses.contains(source.typeOf(getCurrentPath())));
        asks(12, "object made outside a field's initialiser", tree, source.methodAround(getCurrentPath()) == null);
        return super.visitNewClass(tree, nothing);
    }

    @Override
    public Void visitNewArray(NewArrayTree tree, Void nothing) {
        asks(12, "array made outside a field's initialiser", tree, source.methodAround(getCurrentPath()) == null);
        asks(3, "dimensions of an array", tree, tree.getDimensions().size() <= 1);
        for (Tree length : tree.getDimensions()) {
            asks(7, "length of an array is a constant", tree, isConstant(length));
        }
        return super.visitNewArray(tree, nothing);
    }

    private boolean isConstant(Tree tree) {
        if (tree instanceof BinaryTree both) {
            return isConstant(both.getLeftOperand()) && isConstant(both.getRightOperand());
        }
        if (tree instanceof IdentifierTree) {
            Element element = source.elementOf(source.pathOf(tree));
            return element instanceof VariableElement variable && variable.getConstantValue() != null;
        }
        return tree instanceof LiteralTree;
    }

    // ---- what may be written and what not

    @Override
    public Void visitThrow(ThrowTree tree, Void nothing) {
        never(6, "throw", tree);
        return super.visitThrow(tree, nothing);
    }

    @Override
    public Void visitTry(TryTree tree, Void nothing) {
        never(6, "try", tree);
        return super.visitTry(tree, nothing);
    }

    @Override
    public Void visitSynchronized(SynchronizedTree tree, Void nothing) {
        never(6, "synchronized", tree);
        return super.visitSynchronized(tree, nothing);
    }

    @Override
    public Void visitAssert(AssertTree tree, Void nothing) {
        never(6, "assert", tree);
        return super.visitAssert(tree, nothing);
    }

    @Override
    public Void visitInstanceOf(InstanceOfTree tree, Void nothing) {
        never(6, "instanceof, though nothing is cast", tree);
        return super.visitInstanceOf(tree, nothing);
    }

    @Override
    public Void visitTypeCast(TypeCastTree tree, Void nothing) {
        asks(6, "a cast is one between numbers", tree, tree.getType().getKind() == Tree.Kind.PRIMITIVE_TYPE);
        return super.visitTypeCast(tree, nothing);
    }

    @Override
    public Void visitLambdaExpression(LambdaExpressionTree tree, Void nothing) {
        never(2, "lambda", tree);
        return super.visitLambdaExpression(tree, nothing);
    }

    @Override
    public Void visitMemberReference(MemberReferenceTree tree, Void nothing) {
        never(2, "method reference", tree);
        return super.visitMemberReference(tree, nothing);
    }

    @Override
    public Void visitMemberSelect(MemberSelectTree tree, Void nothing) {
        Element element = elementHere();
        boolean field = element != null && element.getKind() == ElementKind.FIELD;
        // The length of an array is nobody's field.
        asks(4, "field " + tree + " of the library", tree, !field || tree.getIdentifier().contentEquals("length")
            || ownClasses.contains(element.getEnclosingElement().asType().toString()));
        asks(4, "no object that stands for a class", tree, !tree.getIdentifier().contentEquals("class"));
        return super.visitMemberSelect(tree, nothing);
    }

    @Override
    public Void visitLiteral(LiteralTree tree, Void nothing) {
        asks(10, "no text, and so none joined by +", tree, tree.getKind() != Tree.Kind.STRING_LITERAL);
        return super.visitLiteral(tree, nothing);
    }

    @Override
    public Void visitBinary(BinaryTree tree, Void nothing) {
        asks(7, "no division", tree, tree.getKind() != Tree.Kind.DIVIDE && tree.getKind() != Tree.Kind.REMAINDER);
        return super.visitBinary(tree, nothing);
    }

    @Override
    public Void visitCompoundAssignment(CompoundAssignmentTree tree, Void nothing) {
        asks(7, "no division", tree, tree.getKind() != Tree.Kind.DIVIDE_ASSIGNMENT
            && tree.getKind() != Tree.Kind.REMAINDER_ASSIGNMENT);
        return super.visitCompoundAssignment(tree, nothing);
    }

    // ---- loops

    @Override
    public Void visitForLoop(ForLoopTree tree, Void nothing) {
        asks(9, "a for loop has a counter and a bound", tree, tree.getInitializer().size() == 1
            && tree.getUpdate().size() == 1 && comparesWithABound(tree.getCondition()));
        return super.visitForLoop(tree, nothing);
    }

    @Override
    public Void visitWhileLoop(WhileLoopTree tree, Void nothing) {
        asks(9, "a while loop has a bound", tree, comparesWithABound(tree.getCondition()));
        return super.visitWhileLoop(tree, nothing);
    }

    @Override
    public Void visitDoWhileLoop(DoWhileLoopTree tree, Void nothing) {
        asks(9, "a do loop has a bound", tree, comparesWithABound(tree.getCondition()));
        return super.visitDoWhileLoop(tree, nothing);
    }

    @Override
    public Void visitEnhancedForLoop(EnhancedForLoopTree tree, Void nothing) {
        asks(9, "a for loop over an array", tree,
            source.kindOf(new TreePath(getCurrentPath(), tree.getExpression())) == TypeKind.ARRAY);
        return super.visitEnhancedForLoop(tree, nothing);
    }

    /** Whether a condition cannot hold without a comparison by order: "counter < bound", perhaps with && and more. */
    private boolean comparesWithABound(Tree condition) {
        if (condition == null) {
            return false;
        }
        switch (condition.getKind()) {
            case PARENTHESIZED:
                return comparesWithABound(((ParenthesizedTree) condition).getExpression());
            case CONDITIONAL_AND:
                return comparesWithABound(((BinaryTree) condition).getLeftOperand())
                    || comparesWithABound(((BinaryTree) condition).getRightOperand());
            case LESS_THAN:
            case LESS_THAN_EQUAL:
            case GREATER_THAN:
            case GREATER_THAN_EQUAL:
                return true;
            default:
                return false;
        }
    }

    private Element elementHere() {
        return source.elementOf(getCurrentPath());
    }

    private static Set<Modifier> modifiersOf(Tree declaration) {
        return declaration instanceof ClassTree one ? one.getModifiers().getFlags() : Set.of();
    }
}
