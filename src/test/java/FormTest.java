import com.sun.source.tree.ArrayTypeTree;
import com.sun.source.tree.AssignmentTree;
import com.sun.source.tree.BlockTree;
import com.sun.source.tree.ClassTree;
import com.sun.source.tree.CompilationUnitTree;
import com.sun.source.tree.ExpressionTree;
import com.sun.source.tree.ForLoopTree;
import com.sun.source.tree.IdentifierTree;
import com.sun.source.tree.LiteralTree;
import com.sun.source.tree.MemberSelectTree;
import com.sun.source.tree.MethodInvocationTree;
import com.sun.source.tree.MethodTree;
import com.sun.source.tree.NewArrayTree;
import com.sun.source.tree.PrimitiveTypeTree;
import com.sun.source.tree.Tree;
import com.sun.source.tree.Tree.Kind;
import com.sun.source.tree.TypeCastTree;
import com.sun.source.tree.VariableTree;
import com.sun.source.util.JavacTask;
import com.sun.source.util.SourcePositions;
import com.sun.source.util.TreePathScanner;
import com.sun.source.util.Trees;
import java.io.IOException;
import java.nio.file.Path;
import java.util.EnumSet;
import java.util.List;
import java.util.Map;
import java.util.Set;
import java.util.TreeMap;
import java.util.TreeSet;
import javax.lang.model.element.Modifier;
import javax.lang.model.type.TypeKind;
import javax.tools.JavaCompiler;
import javax.tools.StandardJavaFileManager;
import javax.tools.ToolProvider;

/**
 * That the program keeps to LANGUAGE.md, as far as its source shows it. Where a rule is hard to
 * see in full, a stricter and plainer one that the program keeps is looked at. What the class
 * shows outside is looked at by FaceTest, and that no call throws by EnduranceTest.
 */
public final class FormTest extends TreePathScanner<Void, Void> {
    private static final Path PROGRAM = Path.of("src", "main", "java", "WatchpointUnit.java");
    private static final int MOST_PARAMETERS = 7;
    private static final int MOST_LINES = 60;
    private static final int MOST_DEPTH = 6;
    private static final int MOST_FIELDS = 40;
    private static final Set<TypeKind> NUMBERS = EnumSet.of(TypeKind.INT, TypeKind.LONG,
            TypeKind.SHORT, TypeKind.BYTE, TypeKind.CHAR, TypeKind.BOOLEAN);
    private static final Set<Kind> RULED_OUT = EnumSet.of(
            Kind.THROW, Kind.TRY, Kind.SYNCHRONIZED, Kind.ASSERT, Kind.INSTANCE_OF,
            Kind.LAMBDA_EXPRESSION, Kind.MEMBER_REFERENCE, Kind.NEW_CLASS, Kind.IMPORT,
            Kind.PACKAGE, Kind.INTERFACE, Kind.ENUM, Kind.RECORD, Kind.ANNOTATION,
            Kind.STRING_LITERAL, Kind.NULL_LITERAL, Kind.FLOAT_LITERAL, Kind.DOUBLE_LITERAL,
            Kind.WHILE_LOOP, Kind.DO_WHILE_LOOP, Kind.ENHANCED_FOR_LOOP);

    private static final Due due = new Due();

    private final CompilationUnitTree unit;
    private final SourcePositions positions;
    private final Set<String> methods = new TreeSet<>();
    private final Set<String> constants = new TreeSet<>();
    private final Map<String, Set<String>> callsOf = new TreeMap<>();
    private String method = "";
    private int fields = 0;

    private FormTest(CompilationUnitTree unit, SourcePositions positions) {
        this.unit = unit;
        this.positions = positions;
    }

    public static void main(String[] args) throws IOException {
        JavaCompiler compiler = ToolProvider.getSystemJavaCompiler();
        try (StandardJavaFileManager files = compiler.getStandardFileManager(null, null, null)) {
            JavacTask task = (JavacTask) compiler.getTask(null, files, null, List.of(), null,
                    files.getJavaFileObjects(PROGRAM));
            for (CompilationUnitTree unit : task.parse()) {
                new FormTest(unit, Trees.instance(task).getSourcePositions()).look();
            }
        }
        due.end();
    }

    private void look() {
        due.is("rule 1: classes in the file", unit.getTypeDecls().size(), 1);
        ClassTree program = (ClassTree) unit.getTypeDecls().get(0);
        for (Tree member : program.getMembers()) {
            note(member);
        }
        scan(unit, null);
        due.isTrue("rule 10: " + fields + " fields", fields <= MOST_FIELDS);
        for (String each : methods) {
            int depth = depthOf(each, new TreeSet<>());
            due.isTrue("rules 8 and 10: " + each + " calls " + depth + " deep", depth <= MOST_DEPTH);
        }
    }

    private void note(Tree member) {
        if (member instanceof MethodTree) {
            methods.add(((MethodTree) member).getName().toString());
        } else if (member instanceof VariableTree) {
            noteField((VariableTree) member);
        } else {
            due.isTrue(where(member) + "rules 1 and 5: fields and methods alone", false);
        }
    }

    private void noteField(VariableTree field) {
        Set<Modifier> modifiers = field.getModifiers().getFlags();
        boolean isArray = field.getType() instanceof ArrayTypeTree;
        if (modifiers.contains(Modifier.STATIC)) {
            constants.add(field.getName().toString());
            due.isTrue(where(field) + "rule 5: a static field is a constant",
                    modifiers.contains(Modifier.FINAL) && !isArray && field.getInitializer() != null);
        } else {
            fields++;
        }
        due.isTrue(where(field) + "rule 4: an array field stays the same",
                !isArray || modifiers.contains(Modifier.FINAL));
    }

    /** How deep the calls of a method go, itself counted; far too deep if one leads back to it. */
    private int depthOf(String name, Set<String> above) {
        if (!above.add(name)) {
            return MOST_DEPTH + 1;
        }
        int deepest = 0;
        for (String called : callsOf.getOrDefault(name, Set.of())) {
            deepest = Math.max(deepest, depthOf(called, above));
        }
        above.remove(name);
        return deepest + 1;
    }

    private long line(long position) {
        return unit.getLineMap().getLineNumber(position);
    }

    private String where(Tree tree) {
        return "line " + line(positions.getStartPosition(unit, tree)) + ": ";
    }

    private static boolean isNumber(Tree type) {
        return type instanceof PrimitiveTypeTree
                && NUMBERS.contains(((PrimitiveTypeTree) type).getPrimitiveTypeKind());
    }

    private static boolean isVoid(Tree type) {
        return type instanceof PrimitiveTypeTree
                && ((PrimitiveTypeTree) type).getPrimitiveTypeKind() == TypeKind.VOID;
    }

    @Override
    public Void scan(Tree tree, Void none) {
        if (tree != null) {
            due.isTrue(where(tree) + "rules 1 to 8: " + tree.getKind(), !RULED_OUT.contains(tree.getKind()));
        }
        return super.scan(tree, none);
    }

    @Override
    public Void visitMethod(MethodTree tree, Void none) {
        method = tree.getName().toString();
        Tree type = tree.getReturnType();
        due.isTrue(where(tree) + "rules 2 and 4: answers a number or nothing",
                type == null || isNumber(type) || isVoid(type));
        due.isTrue(where(tree) + "rule 10: parameters", tree.getParameters().size() <= MOST_PARAMETERS);
        long lines = line(positions.getEndPosition(unit, tree)) - line(positions.getStartPosition(unit, tree)) + 1;
        due.isTrue(where(tree) + "rule 10: " + lines + " lines", lines <= MOST_LINES);
        super.visitMethod(tree, none);
        method = "";
        return null;
    }

    @Override
    public Void visitVariable(VariableTree tree, Void none) {
        Tree type = tree.getType();
        boolean isArray = type instanceof ArrayTypeTree;
        due.isTrue(where(tree) + "rule 2: the type of " + tree.getName(),
                isNumber(isArray ? ((ArrayTypeTree) type).getType() : type));
        due.isTrue(where(tree) + "rule 4: an array is named by a field alone",
                !isArray || method.isEmpty());
        return super.visitVariable(tree, none);
    }

    @Override
    public Void visitNewArray(NewArrayTree tree, Void none) {
        boolean inField = getCurrentPath().getParentPath().getLeaf() instanceof VariableTree && method.isEmpty();
        due.isTrue(where(tree) + "rule 4: an array is made in a field's initialiser", inField);
        due.isTrue(where(tree) + "rules 2 and 4: with one length",
                tree.getInitializers() == null && tree.getDimensions().size() == 1);
        for (ExpressionTree length : tree.getDimensions()) {
            due.isTrue(where(tree) + "rule 4: a literal or constant length",
                    length instanceof LiteralTree || constants.contains(length.toString()));
        }
        return super.visitNewArray(tree, none);
    }

    @Override
    public Void visitMemberSelect(MemberSelectTree tree, Void none) {
        due.isTrue(where(tree) + "rule 3: " + tree, tree.getIdentifier().contentEquals("length"));
        return super.visitMemberSelect(tree, none);
    }

    @Override
    public Void visitTypeCast(TypeCastTree tree, Void none) {
        due.isTrue(where(tree) + "rule 6: a cast to a number", isNumber(tree.getType()));
        return super.visitTypeCast(tree, none);
    }

    @Override
    public Void visitBlock(BlockTree tree, Void none) {
        due.isTrue(where(tree) + "rule 5: no initialiser block", !method.isEmpty());
        return super.visitBlock(tree, none);
    }

    /** A counter that the condition looks at, the update moves and the body leaves alone. */
    @Override
    public Void visitForLoop(ForLoopTree tree, Void none) {
        boolean counts = tree.getInitializer().size() == 1 && tree.getCondition() != null
                && tree.getUpdate().size() == 1 && tree.getInitializer().get(0) instanceof VariableTree;
        due.isTrue(where(tree) + "rule 8: a loop over a counter", counts);
        if (counts) {
            String counter = ((VariableTree) tree.getInitializer().get(0)).getName().toString();
            due.isTrue(where(tree) + "rule 8: a bound for the counter",
                    tree.getCondition().toString().matches(counter + " <=? \\w+"));
            due.isTrue(where(tree) + "rule 8: the counter rises",
                    tree.getUpdate().get(0).toString().matches(counter + "(\\+\\+| \\+= 2);?"));
            due.isTrue(where(tree) + "rule 8: the body leaves the counter alone",
                    !tree.getStatement().toString().matches("(?s).*\\b" + counter + "( [-+*/]?= |\\+\\+|--).*"));
        }
        return super.visitForLoop(tree, none);
    }

    @Override
    public Void visitMethodInvocation(MethodInvocationTree tree, Void none) {
        String called = tree.getMethodSelect().toString();
        // Every constructor calls super(), whether written or not.
        if (!called.equals("super")) {
            due.isTrue(where(tree) + "rule 3: a call of its own method, " + called,
                    tree.getMethodSelect() instanceof IdentifierTree && methods.contains(called));
            callsOf.computeIfAbsent(method, name -> new TreeSet<>()).add(called);
        }
        for (ExpressionTree argument : tree.getArguments()) {
            due.isTrue(where(tree) + "rule 10: no call in " + argument, !argument.toString().matches(".*\\w\\(.*"));
        }
        return super.visitMethodInvocation(tree, none);
    }

    @Override
    public Void visitAssignment(AssignmentTree tree, Void none) {
        // An assignment inside an expression would hide from the looks above.
        Kind above = getCurrentPath().getParentPath().getLeaf().getKind();
        due.isTrue(where(tree) + "an assignment stands alone", above == Kind.EXPRESSION_STATEMENT);
        return super.visitAssignment(tree, none);
    }
}
