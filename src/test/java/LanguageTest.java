import com.sun.source.tree.AssignmentTree;
import com.sun.source.tree.BinaryTree;
import com.sun.source.tree.BlockTree;
import com.sun.source.tree.ClassTree;
import com.sun.source.tree.CompilationUnitTree;
import com.sun.source.tree.CompoundAssignmentTree;
import com.sun.source.tree.ExpressionTree;
import com.sun.source.tree.ForLoopTree;
import com.sun.source.tree.IdentifierTree;
import com.sun.source.tree.LiteralTree;
import com.sun.source.tree.MemberSelectTree;
import com.sun.source.tree.MethodInvocationTree;
import com.sun.source.tree.MethodTree;
import com.sun.source.tree.NewArrayTree;
import com.sun.source.tree.Tree;
import com.sun.source.tree.TypeCastTree;
import com.sun.source.tree.UnaryTree;
import com.sun.source.tree.VariableTree;
import com.sun.source.util.JavacTask;
import com.sun.source.util.SourcePositions;
import com.sun.source.util.TreePath;
import com.sun.source.util.TreePathScanner;
import com.sun.source.util.TreeScanner;
import com.sun.source.util.Trees;
import java.io.File;
import java.util.EnumSet;
import java.util.List;
import java.util.Map;
import java.util.Set;
import java.util.TreeMap;
import java.util.TreeSet;
import javax.lang.model.element.Element;
import javax.lang.model.element.ElementKind;
import javax.lang.model.element.Modifier;
import javax.lang.model.element.VariableElement;
import javax.lang.model.type.ArrayType;
import javax.lang.model.type.TypeKind;
import javax.lang.model.type.TypeMirror;
import javax.tools.JavaCompiler;
import javax.tools.StandardJavaFileManager;
import javax.tools.ToolProvider;

/**
 * The rules of ../shared/LANGUAGE.md that can be read off the program's source. Where a rule leaves room, this holds
 * the program to the narrower habit it keeps: arrays in the fields' initialisers alone, no array in a local variable,
 * for loops that count, constant divisors. FaceTest has the rest of rule 1; rule 7 is GridTest's and ModelTest's.
 */
public final class LanguageTest extends TreePathScanner<Void, Void> {
    private static final String SOURCE = "src/main/java/QapCompiler.java";
    private static final int MOST_PARAMETERS = 7;
    private static final int MOST_LINES = 60;
    private static final int MOST_FIELDS = 40;
    private static final int DEEPEST = 6;

    private static final Set<TypeKind> NUMBERS = EnumSet.of(
        TypeKind.INT, TypeKind.LONG, TypeKind.SHORT, TypeKind.BYTE, TypeKind.CHAR, TypeKind.BOOLEAN);
    private static final Set<Modifier> PLAIN = EnumSet.of(Modifier.PUBLIC, Modifier.PRIVATE, Modifier.STATIC);
    private static final Set<Tree.Kind> RULED_OUT = EnumSet.of(
        Tree.Kind.THROW, Tree.Kind.TRY, Tree.Kind.CATCH, Tree.Kind.SYNCHRONIZED, Tree.Kind.ASSERT,
        Tree.Kind.INSTANCE_OF, Tree.Kind.LAMBDA_EXPRESSION, Tree.Kind.MEMBER_REFERENCE);

    private final Trees trees;
    private final SourcePositions positions;
    private final CompilationUnitTree unit;
    private final Map<String, Set<String>> calls = new TreeMap<>();
    private String method = "";
    private int fields = 0;

    private LanguageTest(JavacTask task, CompilationUnitTree unit) {
        this.trees = Trees.instance(task);
        this.positions = trees.getSourcePositions();
        this.unit = unit;
    }

    public static void main(String[] args) throws Exception {
        JavaCompiler compiler = ToolProvider.getSystemJavaCompiler();
        try (StandardJavaFileManager files = compiler.getStandardFileManager(null, null, null)) {
            JavacTask task = (JavacTask) compiler.getTask(null, files, null, List.of("--release", "17"), null,
                files.getJavaFileObjects(new File(SOURCE)));
            CompilationUnitTree unit = task.parse().iterator().next();
            task.analyze();
            new LanguageTest(task, unit).read();
        }
        Checks.finish();
    }

    private void read() {
        keeps(1, unit, "there is no package line", unit.getPackageName() == null);
        keeps(1, unit, "there is one class", unit.getTypeDecls().size() == 1);
        keeps(3, unit, "nothing is imported", unit.getImports().isEmpty());
        scan(unit, null);
        keeps(10, unit, "there are at most " + MOST_FIELDS + " fields", fields <= MOST_FIELDS);
        int deepest = 0;
        for (String name : calls.keySet()) {
            deepest = Math.max(deepest, depth(name, new TreeSet<>()));
        }
        keeps(10, unit, "calls go at most " + DEEPEST + " deep, not " + deepest, deepest <= DEEPEST);
    }

    private void keeps(int rule, Tree tree, String what, boolean kept) {
        long line = unit.getLineMap().getLineNumber(positions.getStartPosition(unit, tree));
        Checks.holds("LANGUAGE.md, rule " + rule + ", line " + line + ": " + what, kept);
    }

    private int depth(String name, Set<String> above) {
        if (!above.add(name)) {
            keeps(8, unit, name + " doesn't come back to itself", false);
            return 0;
        }
        int deepest = 0;
        for (String called : calls.getOrDefault(name, Set.of())) {
            deepest = Math.max(deepest, depth(called, above));
        }
        above.remove(name);
        return deepest + 1;
    }

    private TypeMirror typeOf(Tree tree) {
        return trees.getTypeMirror(TreePath.getPath(unit, tree));
    }

    private Element elementOf(Tree tree) {
        return trees.getElement(TreePath.getPath(unit, tree));
    }

    private static boolean isNumber(TypeMirror type) {
        return type != null && NUMBERS.contains(type.getKind());
    }

    private static boolean isNumberArray(TypeMirror type) {
        return type != null && type.getKind() == TypeKind.ARRAY && isNumber(((ArrayType) type).getComponentType());
    }

    private Object constantOf(ExpressionTree tree) {
        if (tree instanceof LiteralTree) {
            return ((LiteralTree) tree).getValue();
        }
        Element element = elementOf(tree);
        return element instanceof VariableElement ? ((VariableElement) element).getConstantValue() : null;
    }

    private boolean isPositiveConstant(ExpressionTree tree) {
        Object value = constantOf(tree);
        return value instanceof Number && ((Number) value).longValue() > 0;
    }

    @Override
    public Void scan(Tree tree, Void none) {
        if (tree == null) {
            return null;
        }
        keeps(6, tree, "no " + tree.getKind(), !RULED_OUT.contains(tree.getKind()));
        keeps(3, tree, "no object is made", tree.getKind() != Tree.Kind.NEW_CLASS);
        keeps(4, tree, "no null", tree.getKind() != Tree.Kind.NULL_LITERAL);
        boolean counts = tree.getKind() != Tree.Kind.WHILE_LOOP && tree.getKind() != Tree.Kind.DO_WHILE_LOOP
            && tree.getKind() != Tree.Kind.ENHANCED_FOR_LOOP;
        keeps(8, tree, "every loop counts", counts);
        return super.scan(tree, none);
    }

    @Override
    public Void visitClass(ClassTree tree, Void none) {
        boolean outermost = getCurrentPath().getParentPath().getLeaf() == unit;
        keeps(1, tree, "no nested class", outermost && tree.getKind() == Tree.Kind.CLASS);
        for (Tree member : tree.getMembers()) {
            keeps(5, member, "no initialiser block", !(member instanceof BlockTree));
        }
        return super.visitClass(tree, none);
    }

    @Override
    public Void visitMethod(MethodTree tree, Void none) {
        method = tree.getName().toString();
        keeps(8, tree, "one method is called " + method, calls.put(method, new TreeSet<>()) == null);
        keeps(6, tree, "public, private and static alone", PLAIN.containsAll(tree.getModifiers().getFlags()));
        if (tree.getReturnType() != null) {
            TypeMirror type = typeOf(tree.getReturnType());
            keeps(4, tree, "no array is answered", isNumber(type) || type.getKind() == TypeKind.VOID);
        }
        keeps(10, tree, "at most " + MOST_PARAMETERS + " parameters", tree.getParameters().size() <= MOST_PARAMETERS);
        long first = unit.getLineMap().getLineNumber(positions.getStartPosition(unit, tree));
        long last = unit.getLineMap().getLineNumber(positions.getEndPosition(unit, tree));
        keeps(10, tree, "at most " + MOST_LINES + " lines", last - first < MOST_LINES);
        super.visitMethod(tree, none);
        method = "";
        return null;
    }

    @Override
    public Void visitVariable(VariableTree tree, Void none) {
        VariableElement variable = (VariableElement) elementOf(tree);
        TypeMirror type = variable.asType();
        boolean field = variable.getKind() == ElementKind.FIELD;
        Set<Modifier> modifiers = variable.getModifiers();
        keeps(2, tree, "a number or an array of numbers", isNumber(type) || isNumberArray(type));
        keeps(4, tree, "an array stands in a field", field || !isNumberArray(type));
        if (modifiers.contains(Modifier.STATIC)) {
            boolean whole = type.getKind() == TypeKind.INT || type.getKind() == TypeKind.LONG;
            keeps(5, tree, "a static field is a constant", whole && variable.getConstantValue() != null);
        } else if (field) {
            fields++;
            boolean made = tree.getInitializer() instanceof NewArrayTree && modifiers.contains(Modifier.FINAL);
            keeps(4, tree, "an array is made once, with its field", !isNumberArray(type) || made);
        }
        return super.visitVariable(tree, none);
    }

    @Override
    public Void visitNewArray(NewArrayTree tree, Void none) {
        keeps(4, tree, "no array is made in a method", method.isEmpty());
        boolean plain = tree.getInitializers() == null && tree.getDimensions().size() == 1;
        keeps(4, tree, "a length that is a constant, 1 or more", plain && isPositiveConstant(tree.getDimensions().get(0)));
        return super.visitNewArray(tree, none);
    }

    @Override
    public Void visitLiteral(LiteralTree tree, Void none) {
        keeps(2, tree, "a literal is a whole number or a boolean", isNumber(typeOf(tree)));
        return super.visitLiteral(tree, none);
    }

    @Override
    public Void visitMemberSelect(MemberSelectTree tree, Void none) {
        keeps(3, tree, "a dot stands behind this alone", tree.getExpression().toString().equals("this"));
        return super.visitMemberSelect(tree, none);
    }

    @Override
    public Void visitMethodInvocation(MethodInvocationTree tree, Void none) {
        Element called = elementOf(tree);
        String name = called.getSimpleName().toString();
        // The constructor that javac adds calls the one of Object.
        boolean added = name.equals("<init>") && method.equals("<init>");
        boolean own = called.getEnclosingElement().getSimpleName().contentEquals("QapCompiler");
        keeps(3, tree, name + " is a method of the class", added || own);
        if (own) {
            calls.get(method).add(name);
        }
        boolean nested = false;
        for (TreePath path = getCurrentPath().getParentPath(); path.getParentPath() != null; path = path.getParentPath()) {
            nested |= path.getLeaf() instanceof MethodInvocationTree;
        }
        keeps(10, tree, "no call inside the arguments of another", !nested);
        return super.visitMethodInvocation(tree, none);
    }

    @Override
    public Void visitTypeCast(TypeCastTree tree, Void none) {
        keeps(6, tree, "a cast between numbers", isNumber(typeOf(tree.getType())) && isNumber(typeOf(tree.getExpression())));
        return super.visitTypeCast(tree, none);
    }

    @Override
    public Void visitBinary(BinaryTree tree, Void none) {
        keeps(2, tree, "a number comes of numbers", isNumber(typeOf(tree)));
        boolean numbers = isNumber(typeOf(tree.getLeftOperand())) && isNumber(typeOf(tree.getRightOperand()));
        keeps(4, tree, "no array is compared", numbers);
        if (tree.getKind() == Tree.Kind.DIVIDE || tree.getKind() == Tree.Kind.REMAINDER) {
            keeps(7, tree, "a divisor isn't 0", isPositiveConstant(tree.getRightOperand()));
        }
        return super.visitBinary(tree, none);
    }

    @Override
    public Void visitCompoundAssignment(CompoundAssignmentTree tree, Void none) {
        boolean divides = tree.getKind() == Tree.Kind.DIVIDE_ASSIGNMENT || tree.getKind() == Tree.Kind.REMAINDER_ASSIGNMENT;
        keeps(7, tree, "a divisor isn't 0", !divides || isPositiveConstant(tree.getExpression()));
        return super.visitCompoundAssignment(tree, none);
    }

    @Override
    public Void visitForLoop(ForLoopTree tree, Void none) {
        keeps(8, tree, "the loop has an end in its own lines", countsToItsBound(tree));
        return super.visitForLoop(tree, none);
    }

    // One counter, declared here, one step at a time towards the bound, and written nowhere else.
    private boolean countsToItsBound(ForLoopTree tree) {
        if (tree.getInitializer().size() != 1 || tree.getUpdate().size() != 1
            || !(tree.getInitializer().get(0) instanceof VariableTree) || !(tree.getCondition() instanceof BinaryTree)) {
            return false;
        }
        String counter = ((VariableTree) tree.getInitializer().get(0)).getName().toString();
        BinaryTree condition = (BinaryTree) tree.getCondition();
        String step = tree.getUpdate().get(0).toString();
        Tree.Kind kind = condition.getKind();
        boolean up = kind == Tree.Kind.LESS_THAN || kind == Tree.Kind.LESS_THAN_EQUAL;
        boolean down = kind == Tree.Kind.GREATER_THAN || kind == Tree.Kind.GREATER_THAN_EQUAL;
        boolean towards = (up && step.equals(counter + "++;")) || (down && step.equals(counter + "--;"));
        return towards && condition.getLeftOperand().toString().equals(counter)
            && isNumber(typeOf(condition.getRightOperand())) && !isWritten(counter, condition.getRightOperand(), tree);
    }

    private boolean isWritten(String counter, ExpressionTree bound, ForLoopTree loop) {
        boolean[] written = {false};
        new TreeScanner<Void, Void>() {
            private void look(ExpressionTree target) {
                String name = target instanceof IdentifierTree ? target.toString() : "";
                written[0] |= name.equals(counter) || name.equals(bound.toString());
            }

            @Override
            public Void visitAssignment(AssignmentTree tree, Void none) {
                look(tree.getVariable());
                return super.visitAssignment(tree, none);
            }

            @Override
            public Void visitCompoundAssignment(CompoundAssignmentTree tree, Void none) {
                look(tree.getVariable());
                return super.visitCompoundAssignment(tree, none);
            }

            @Override
            public Void visitUnary(UnaryTree tree, Void none) {
                boolean writes = tree.getKind() != Tree.Kind.UNARY_MINUS && tree.getKind() != Tree.Kind.UNARY_PLUS
                    && tree.getKind() != Tree.Kind.BITWISE_COMPLEMENT && tree.getKind() != Tree.Kind.LOGICAL_COMPLEMENT;
                if (writes) {
                    look(tree.getExpression());
                }
                return super.visitUnary(tree, none);
            }
        }.scan(loop.getStatement(), null);
        return written[0];
    }
}
