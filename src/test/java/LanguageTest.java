import com.sun.source.tree.ArrayAccessTree;
import com.sun.source.tree.ArrayTypeTree;
import com.sun.source.tree.BinaryTree;
import com.sun.source.tree.CompoundAssignmentTree;
import com.sun.source.tree.ExpressionTree;
import com.sun.source.tree.IdentifierTree;
import com.sun.source.tree.MemberSelectTree;
import com.sun.source.tree.MethodInvocationTree;
import com.sun.source.tree.MethodTree;
import com.sun.source.tree.NewArrayTree;
import com.sun.source.tree.PrimitiveTypeTree;
import com.sun.source.tree.Tree;
import com.sun.source.tree.TypeCastTree;
import com.sun.source.tree.UnaryTree;
import com.sun.source.tree.VariableTree;
import com.sun.source.util.TreeScanner;
import java.io.IOException;
import java.nio.file.Path;
import java.util.HashSet;
import java.util.Map;
import java.util.Set;
import javax.lang.model.element.Modifier;
import javax.lang.model.type.TypeKind;

/**
 * The rules of LANGUAGE.md on the syntax tree of the source. Where a rule leaves several ways, only
 * the one that the program takes is let through: an array is made by a field and used with an
 * index, a constant is a plain number, a loop counts.
 */
public final class LanguageTest extends TreeScanner<Void, Void> {
    private static final Path SOURCE = Path.of("src/main/java/OrderedKeys.java");
    private static final int MOST_LINES = 60;
    private static final int MOST_PARAMETERS = 7;
    private static final int MOST_FIELDS = 40;
    private static final Set<TypeKind> TYPES = Set.of(
            TypeKind.INT, TypeKind.LONG, TypeKind.SHORT, TypeKind.BYTE, TypeKind.CHAR,
            TypeKind.BOOLEAN);
    private static final Map<Tree.Kind, Integer> RULES_AGAINST = Map.ofEntries(
            Map.entry(Tree.Kind.ANNOTATION, 3),
            Map.entry(Tree.Kind.ASSERT, 6),
            Map.entry(Tree.Kind.DOUBLE_LITERAL, 2),
            Map.entry(Tree.Kind.FLOAT_LITERAL, 2),
            Map.entry(Tree.Kind.INSTANCE_OF, 6),
            Map.entry(Tree.Kind.LAMBDA_EXPRESSION, 6),
            Map.entry(Tree.Kind.MEMBER_REFERENCE, 6),
            Map.entry(Tree.Kind.NEW_CLASS, 2),
            Map.entry(Tree.Kind.NULL_LITERAL, 4),
            Map.entry(Tree.Kind.STRING_LITERAL, 2),
            Map.entry(Tree.Kind.SYNCHRONIZED, 6),
            Map.entry(Tree.Kind.THROW, 6),
            Map.entry(Tree.Kind.TRY, 6));

    private final Program program;
    private final Set<String> names = new HashSet<>();
    private final Set<String> arrays = new HashSet<>();
    private final Set<String> constants = new HashSet<>();
    private final Set<Tree> arraysOfFields = new HashSet<>();

    private LanguageTest(Program program) {
        this.program = program;
    }

    public static void main(String[] args) throws IOException {
        Program program = Program.read(SOURCE);
        LanguageTest test = new LanguageTest(program);
        test.oneClass();
        test.collectNames();
        test.fields();
        test.sizes();
        test.scan(program.type(), null);
        new Calls(program).check();
        int faults = program.faults();
        System.out.println(faults == 0 ? "the rules are kept" : faults + " breaches of the rules");
        if (faults != 0) {
            System.exit(1);
        }
    }

    private void fault(int rule, Tree where) {
        program.fault(rule, where, where.toString());
    }

    private void oneClass() {
        if (program.unit().getPackage() != null) {
            fault(1, program.unit().getPackage());
        }
        program.unit().getImports().forEach(tree -> fault(3, tree));
        program.unit().getTypeDecls().stream().skip(1).forEach(tree -> fault(1, tree));
        program.nestedTypes().forEach(tree -> fault(1, tree));
        program.initialisers().forEach(tree -> fault(5, tree));
    }

    /** All names that the class gives itself: any other one would be of a library. */
    private void collectNames() {
        names.add("this");
        program.methods().forEach(method -> names.add(method.getName().toString()));
        new TreeScanner<Void, Void>() {
            @Override
            public Void visitVariable(VariableTree variable, Void nothing) {
                names.add(variable.getName().toString());
                if (variable.getType() instanceof ArrayTypeTree) {
                    arrays.add(variable.getName().toString());
                }
                return super.visitVariable(variable, nothing);
            }
        }.scan(program.unit(), null);
    }

    private void fields() {
        for (VariableTree field : program.fields()) {
            if (Program.isStatic(field)) {
                constants.add(field.getName().toString());
            }
        }
        for (VariableTree field : program.fields()) {
            if (Program.isStatic(field) && !isNumber(field.getInitializer())) {
                fault(5, field);
            }
            if (field.getType() instanceof ArrayTypeTree) {
                arraysOfFields.add(field.getInitializer());
            }
        }
    }

    private static boolean isNumber(ExpressionTree value) {
        boolean isMinus = value != null && value.getKind() == Tree.Kind.UNARY_MINUS;
        ExpressionTree number = isMinus ? ((UnaryTree) value).getExpression() : value;
        return number != null
                && (number.getKind() == Tree.Kind.INT_LITERAL
                        || number.getKind() == Tree.Kind.LONG_LITERAL);
    }

    private void sizes() {
        for (MethodTree method : program.methods()) {
            if (program.lines(method) > MOST_LINES) {
                program.fault(10, method, method.getName() + " is too long");
            }
            if (method.getParameters().size() > MOST_PARAMETERS) {
                program.fault(10, method, method.getName() + " has too many parameters");
            }
        }
        if (program.fields().stream().filter(field -> !Program.isStatic(field)).count() > MOST_FIELDS) {
            program.fault(10, program.type(), "too many fields");
        }
    }

    @Override
    public Void scan(Tree tree, Void nothing) {
        if (tree != null && RULES_AGAINST.containsKey(tree.getKind())) {
            fault(RULES_AGAINST.get(tree.getKind()), tree);
        }
        return super.scan(tree, nothing);
    }

    private static boolean isAllowed(Tree type) {
        Tree single = type instanceof ArrayTypeTree ? ((ArrayTypeTree) type).getType() : type;
        return single instanceof PrimitiveTypeTree
                && TYPES.contains(((PrimitiveTypeTree) single).getPrimitiveTypeKind());
    }

    private static boolean isVoid(Tree type) {
        return type instanceof PrimitiveTypeTree
                && ((PrimitiveTypeTree) type).getPrimitiveTypeKind() == TypeKind.VOID;
    }

    @Override
    public Void visitMethod(MethodTree method, Void nothing) {
        // A constructor has none.
        Tree answer = method.getReturnType();
        if (answer instanceof ArrayTypeTree) {
            program.fault(4, method, method.getName() + " answers an array");
        } else if (answer != null && !isVoid(answer) && !isAllowed(answer)) {
            program.fault(2, method, method.getName() + " answers " + answer);
        }
        if (!method.getThrows().isEmpty()
                || method.getModifiers().getFlags().contains(Modifier.SYNCHRONIZED)) {
            program.fault(6, method, method.getName() + " is synchronized or throws");
        }
        return super.visitMethod(method, nothing);
    }

    @Override
    public Void visitVariable(VariableTree variable, Void nothing) {
        if (!isAllowed(variable.getType())) {
            fault(2, variable);
        }
        return super.visitVariable(variable, nothing);
    }

    @Override
    public Void visitNewArray(NewArrayTree array, Void nothing) {
        boolean hasOneLength = array.getInitializers() == null && array.getDimensions().size() == 1;
        if (!arraysOfFields.contains(array) || !hasOneLength
                || !isConstantLength(array.getDimensions().get(0))) {
            fault(4, array);
        }
        return super.visitNewArray(array, nothing);
    }

    private boolean isConstantLength(ExpressionTree length) {
        return length.getKind() == Tree.Kind.INT_LITERAL && !length.toString().equals("0")
                || length instanceof IdentifierTree && constants.contains(length.toString());
    }

    @Override
    public Void visitIdentifier(IdentifierTree identifier, Void nothing) {
        if (!names.contains(identifier.getName().toString())) {
            fault(3, identifier);
        }
        if (arrays.contains(identifier.getName().toString())) {
            program.fault(4, identifier, identifier + " is used without an index");
        }
        return null;
    }

    @Override
    public Void visitMemberSelect(MemberSelectTree select, Void nothing) {
        if (!select.getExpression().toString().equals("this")) {
            fault(3, select);
        }
        if (arrays.contains(select.getIdentifier().toString())) {
            program.fault(4, select, select + " is used without an index");
        }
        return super.visitMemberSelect(select, nothing);
    }

    @Override
    public Void visitArrayAccess(ArrayAccessTree access, Void nothing) {
        // The array's name has its index here, so visitIdentifier must not see it.
        if (!arrays.contains(access.getExpression().toString())) {
            fault(4, access);
        }
        return scan(access.getIndex(), nothing);
    }

    @Override
    public Void visitMethodInvocation(MethodInvocationTree call, Void nothing) {
        for (ExpressionTree argument : call.getArguments()) {
            if (!Calls.namesCalledIn(argument).isEmpty()) {
                fault(10, call);
            }
        }
        return super.visitMethodInvocation(call, nothing);
    }

    @Override
    public Void visitTypeCast(TypeCastTree cast, Void nothing) {
        if (!(cast.getType() instanceof PrimitiveTypeTree) || !isAllowed(cast.getType())) {
            fault(6, cast);
        }
        return super.visitTypeCast(cast, nothing);
    }

    @Override
    public Void visitBinary(BinaryTree binary, Void nothing) {
        if (binary.getKind() == Tree.Kind.DIVIDE || binary.getKind() == Tree.Kind.REMAINDER) {
            checkDivisor(binary, binary.getRightOperand());
        }
        return super.visitBinary(binary, nothing);
    }

    @Override
    public Void visitCompoundAssignment(CompoundAssignmentTree assignment, Void nothing) {
        if (assignment.getKind() == Tree.Kind.DIVIDE_ASSIGNMENT
                || assignment.getKind() == Tree.Kind.REMAINDER_ASSIGNMENT) {
            checkDivisor(assignment, assignment.getExpression());
        }
        return super.visitCompoundAssignment(assignment, nothing);
    }

    private void checkDivisor(Tree division, ExpressionTree divisor) {
        if (!isNumber(divisor) || divisor.toString().matches("-?0L?")) {
            fault(7, division);
        }
    }
}
