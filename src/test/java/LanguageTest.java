import com.sun.source.tree.ArrayTypeTree;
import com.sun.source.tree.AssignmentTree;
import com.sun.source.tree.BinaryTree;
import com.sun.source.tree.ClassTree;
import com.sun.source.tree.CompilationUnitTree;
import com.sun.source.tree.CompoundAssignmentTree;
import com.sun.source.tree.DoWhileLoopTree;
import com.sun.source.tree.ExpressionTree;
import com.sun.source.tree.ForLoopTree;
import com.sun.source.tree.IdentifierTree;
import com.sun.source.tree.LiteralTree;
import com.sun.source.tree.MemberSelectTree;
import com.sun.source.tree.MethodInvocationTree;
import com.sun.source.tree.MethodTree;
import com.sun.source.tree.NewArrayTree;
import com.sun.source.tree.PrimitiveTypeTree;
import com.sun.source.tree.Tree;
import com.sun.source.tree.TypeCastTree;
import com.sun.source.tree.VariableTree;
import com.sun.source.tree.WhileLoopTree;
import com.sun.source.util.JavacTask;
import com.sun.source.util.TreeScanner;
import com.sun.source.util.Trees;
import java.io.File;
import java.io.IOException;
import java.util.EnumSet;
import java.util.HashSet;
import java.util.List;
import java.util.Map;
import java.util.Set;
import java.util.TreeMap;
import java.util.TreeSet;
import javax.lang.model.element.Modifier;
import javax.lang.model.type.TypeKind;
import javax.tools.JavaCompiler;
import javax.tools.StandardJavaFileManager;
import javax.tools.ToolProvider;

/**
 * The rules of ../shared/LANGUAGE.md that the text of the class can be asked for, by their numbers. Some are asked for
 * more strictly than they are said (each divisor is a constant), because the class can do with that.
 */
public final class LanguageTest extends TreeScanner<Void, Void> {
    private static final int MOST_PARAMETERS = 7, MOST_LINES = 60, MOST_DEPTH = 6, MOST_FIELDS = 40;
    private static final Set<TypeKind> NUMBERS = EnumSet.of(TypeKind.INT, TypeKind.LONG, TypeKind.SHORT, TypeKind.BYTE,
            TypeKind.CHAR, TypeKind.BOOLEAN);
    /** By rule 6, and by rules 1, 2 and 4. */
    private static final Set<Tree.Kind> FORBIDDEN = EnumSet.of(Tree.Kind.THROW, Tree.Kind.TRY, Tree.Kind.CATCH,
            Tree.Kind.SYNCHRONIZED, Tree.Kind.ASSERT, Tree.Kind.INSTANCE_OF, Tree.Kind.LAMBDA_EXPRESSION,
            Tree.Kind.MEMBER_REFERENCE, Tree.Kind.NEW_CLASS, Tree.Kind.NULL_LITERAL, Tree.Kind.STRING_LITERAL,
            Tree.Kind.FLOAT_LITERAL, Tree.Kind.DOUBLE_LITERAL, Tree.Kind.CLASS, Tree.Kind.INTERFACE, Tree.Kind.ENUM,
            Tree.Kind.RECORD, Tree.Kind.ANNOTATION_TYPE);

    private final CompilationUnitTree unit;
    private final Trees trees;
    private final Set<String> constants = new HashSet<>();
    private final Set<String> arrayFields = new HashSet<>();
    private final Map<String, Set<String>> callsOf = new TreeMap<>();
    private String method = "";
    private int callsAround = 0;

    private LanguageTest(CompilationUnitTree unit, Trees trees) {
        this.unit = unit;
        this.trees = trees;
    }

    /** The file may be named, so that the test itself can be tried on a class that breaks a rule. */
    public static void main(String[] args) throws IOException {
        File file = new File(args.length > 0 ? args[0] : "src/main/java/WheelScheduler.java");
        JavaCompiler compiler = ToolProvider.getSystemJavaCompiler();
        try (StandardJavaFileManager files = compiler.getStandardFileManager(null, null, null)) {
            JavacTask task = (JavacTask) compiler.getTask(null, files, null, List.of("--release", "17"), null,
                    files.getJavaFileObjects(file));
            CompilationUnitTree unit = task.parse().iterator().next();
            new LanguageTest(unit, Trees.instance(task)).theFile();
        }
        Check.end();
    }

    private void rule(int number, String what, boolean kept) {
        Check.yes("rule " + number + (method.isEmpty() ? "" : ", in " + method) + ": " + what, kept);
    }

    private void theFile() {
        rule(1, "no package", unit.getPackage() == null);
        rule(3, "nothing is imported", unit.getImports().isEmpty());
        rule(1, "one class", unit.getTypeDecls().size() == 1);
        ClassTree type = (ClassTree) unit.getTypeDecls().get(0);
        rule(1, "a class", type.getKind() == Tree.Kind.CLASS);
        rule(1, "public and final",
                type.getModifiers().getFlags().equals(EnumSet.of(Modifier.PUBLIC, Modifier.FINAL)));
        rule(2, "of no other class", type.getExtendsClause() == null && type.getImplementsClause().isEmpty());
        for (Tree member : type.getMembers()) {
            if (member instanceof MethodTree) {
                callsOf.put(((MethodTree) member).getName().toString(), new TreeSet<>());
            } else if (member instanceof VariableTree) {
                noteField((VariableTree) member);
            }
        }
        for (Tree member : type.getMembers()) {
            theMember(member);
        }
        method = "";
        theDepth();
    }

    private void noteField(VariableTree field) {
        if (isStatic(field)) {
            constants.add(field.getName().toString());
        } else if (field.getType() instanceof ArrayTypeTree) {
            arrayFields.add(field.getName().toString());
        }
    }

    private static boolean isStatic(VariableTree field) {
        return field.getModifiers().getFlags().contains(Modifier.STATIC);
    }

    private void theMember(Tree member) {
        if (member instanceof VariableTree) {
            method = ((VariableTree) member).getName().toString();
            theField((VariableTree) member);
        } else if (member instanceof MethodTree) {
            method = ((MethodTree) member).getName().toString();
            theMethod((MethodTree) member);
        } else {
            rule(1, "fields, methods and a constructor alone, not " + member.getKind(), false);
        }
    }

    private void theField(VariableTree field) {
        if (isStatic(field)) {
            rule(5, "a constant", field.getModifiers().getFlags().contains(Modifier.FINAL));
            rule(5, "of int or long", isOneOf(field.getType(), EnumSet.of(TypeKind.INT, TypeKind.LONG)));
            rule(5, "with a value", field.getInitializer() != null);
        }
        rule(2, "a field's type", isAllowed(field.getType()));
        if (field.getInitializer() instanceof NewArrayTree) {
            theArray((NewArrayTree) field.getInitializer());
        } else {
            rule(4, "an array is made where it is declared", !arrayFields.contains(field.getName().toString()));
            scan(field.getInitializer(), null);
        }
    }

    private void theArray(NewArrayTree array) {
        boolean oneLength = array.getDimensions().size() == 1 && array.getInitializers() == null;
        rule(4, "an array with one length", oneLength);
        rule(4, "a length that is a literal or a constant", oneLength && isConstant(array.getDimensions().get(0)));
    }

    private boolean isConstant(ExpressionTree value) {
        return value instanceof LiteralTree
                || value instanceof IdentifierTree && constants.contains(((IdentifierTree) value).getName().toString());
    }

    private static boolean isOneOf(Tree type, Set<TypeKind> kinds) {
        return type instanceof PrimitiveTypeTree && kinds.contains(((PrimitiveTypeTree) type).getPrimitiveTypeKind());
    }

    private static boolean isAllowed(Tree type) {
        return isOneOf(type instanceof ArrayTypeTree ? ((ArrayTypeTree) type).getType() : type, NUMBERS);
    }

    private void theMethod(MethodTree made) {
        Tree answer = made.getReturnType();
        rule(4, "no array is answered", !(answer instanceof ArrayTypeTree));
        rule(2, "the answer's type",
                answer == null || isAllowed(answer) || isOneOf(answer, EnumSet.of(TypeKind.VOID)));
        rule(6, "no throws", made.getThrows().isEmpty());
        rule(10, "at most seven parameters", made.getParameters().size() <= MOST_PARAMETERS);
        rule(10, "short", lineOf(made, false) - lineOf(made, true) < MOST_LINES);
        scan(made.getParameters(), null);
        made.getBody().getStatements().forEach(statement -> scan(statement, null));
    }

    private long lineOf(Tree tree, boolean first) {
        long place = first ? trees.getSourcePositions().getStartPosition(unit, tree)
                : trees.getSourcePositions().getEndPosition(unit, tree);
        return unit.getLineMap().getLineNumber(place);
    }

    @Override
    public Void scan(Tree tree, Void nothing) {
        if (tree != null) {
            rule(6, "nor by 1, 2 or 4: no " + tree.getKind(), !FORBIDDEN.contains(tree.getKind()));
        }
        return super.scan(tree, nothing);
    }

    @Override
    public Void visitVariable(VariableTree local, Void nothing) {
        rule(2, "the type of " + local.getName(), isAllowed(local.getType()));
        return super.visitVariable(local, nothing);
    }

    @Override
    public Void visitNewArray(NewArrayTree array, Void nothing) {
        rule(4, "a method makes no array", false);
        return super.visitNewArray(array, nothing);
    }

    @Override
    public Void visitTypeCast(TypeCastTree cast, Void nothing) {
        rule(6, "a cast to a number", isOneOf(cast.getType(), NUMBERS));
        return super.visitTypeCast(cast, nothing);
    }

    @Override
    public Void visitMemberSelect(MemberSelectTree select, Void nothing) {
        rule(3, "nothing of another class: " + select,
                select.getExpression().toString().equals("this") || select.getIdentifier().contentEquals("length"));
        return super.visitMemberSelect(select, nothing);
    }

    @Override
    public Void visitIdentifier(IdentifierTree name, Void nothing) {
        rule(3, "no class is named: " + name, constants.contains(name.getName().toString())
                || Character.isLowerCase(name.getName().charAt(0)));
        return null;
    }

    @Override
    public Void visitAssignment(AssignmentTree assignment, Void nothing) {
        String target = assignment.getVariable().toString();
        rule(4, "no array field is assigned to: " + target, !arrayFields.contains(target.replace("this.", "")));
        return super.visitAssignment(assignment, nothing);
    }

    @Override
    public Void visitBinary(BinaryTree both, Void nothing) {
        if (both.getKind() == Tree.Kind.DIVIDE || both.getKind() == Tree.Kind.REMAINDER) {
            rule(7, "a constant divides: " + both, isConstant(both.getRightOperand()));
        }
        if (both.getKind() == Tree.Kind.EQUAL_TO || both.getKind() == Tree.Kind.NOT_EQUAL_TO) {
            rule(4, "no array is compared: " + both, !arrayFields.contains(both.getLeftOperand().toString())
                    && !arrayFields.contains(both.getRightOperand().toString()));
        }
        return super.visitBinary(both, nothing);
    }

    @Override
    public Void visitCompoundAssignment(CompoundAssignmentTree assignment, Void nothing) {
        rule(7, "no division in place: " + assignment, assignment.getKind() != Tree.Kind.DIVIDE_ASSIGNMENT
                && assignment.getKind() != Tree.Kind.REMAINDER_ASSIGNMENT);
        return super.visitCompoundAssignment(assignment, nothing);
    }

    @Override
    public Void visitMethodInvocation(MethodInvocationTree call, Void nothing) {
        String called = call.getMethodSelect().toString();
        rule(3, "a method of the class is called: " + called, callsOf.containsKey(called));
        rule(10, "no call inside the arguments of another: " + call, callsAround == 0);
        callsOf.get(method).add(called);
        callsAround++;
        scan(call.getArguments(), null);
        callsAround--;
        return null;
    }

    @Override
    public Void visitForLoop(ForLoopTree loop, Void nothing) {
        theLoop(loop.getCondition());
        rule(8, "a loop that counts", !loop.getUpdate().isEmpty());
        return super.visitForLoop(loop, nothing);
    }

    @Override
    public Void visitWhileLoop(WhileLoopTree loop, Void nothing) {
        theLoop(loop.getCondition());
        return super.visitWhileLoop(loop, nothing);
    }

    @Override
    public Void visitDoWhileLoop(DoWhileLoopTree loop, Void nothing) {
        theLoop(loop.getCondition());
        return super.visitDoWhileLoop(loop, nothing);
    }

    /** That the counter goes towards the bound is left to the reader: here is only seen that there is a bound. */
    private void theLoop(ExpressionTree condition) {
        rule(8, "a loop with a bound: " + condition, condition != null && condition.toString().matches(".*[<>].*"));
    }

    /** Takes away, again and again, the methods that call only such as were taken away before. */
    private void theDepth() {
        Map<String, Integer> depths = new TreeMap<>();
        for (int round = 0; round < callsOf.size(); round++) {
            callsOf.forEach((name, called) -> {
                if (depths.keySet().containsAll(called)) {
                    depths.put(name, 1 + called.stream().mapToInt(depths::get).max().orElse(0));
                }
            });
        }
        callsOf.keySet().forEach(name -> {
            rule(8, "no recursion through " + name, depths.containsKey(name));
            rule(10, "calls from " + name + " go at most six deep", depths.getOrDefault(name, 0) <= MOST_DEPTH);
        });
        int fields = ((ClassTree) unit.getTypeDecls().get(0)).getMembers().stream()
                .mapToInt(member -> member instanceof VariableTree && !isStatic((VariableTree) member) ? 1 : 0).sum();
        rule(10, "at most forty fields", fields <= MOST_FIELDS);
    }
}
