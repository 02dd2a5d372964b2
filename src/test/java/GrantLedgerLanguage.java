import com.sun.source.tree.ArrayAccessTree;
import com.sun.source.tree.ArrayTypeTree;
import com.sun.source.tree.AssignmentTree;
import com.sun.source.tree.BlockTree;
import com.sun.source.tree.ClassTree;
import com.sun.source.tree.CompilationUnitTree;
import com.sun.source.tree.CompoundAssignmentTree;
import com.sun.source.tree.ExpressionTree;
import com.sun.source.tree.ForLoopTree;
import com.sun.source.tree.IdentifierTree;
import com.sun.source.tree.MemberSelectTree;
import com.sun.source.tree.MethodInvocationTree;
import com.sun.source.tree.MethodTree;
import com.sun.source.tree.NewArrayTree;
import com.sun.source.tree.PrimitiveTypeTree;
import com.sun.source.tree.Tree;
import com.sun.source.tree.Tree.Kind;
import com.sun.source.tree.TypeCastTree;
import com.sun.source.tree.UnaryTree;
import com.sun.source.tree.VariableTree;
import com.sun.source.util.JavacTask;
import com.sun.source.util.TreePath;
import com.sun.source.util.TreePathScanner;
import com.sun.source.util.Trees;
import java.nio.file.Path;
import java.util.ArrayList;
import java.util.EnumSet;
import java.util.HashMap;
import java.util.List;
import java.util.Map;
import java.util.Set;
import java.util.TreeSet;
import javax.lang.model.element.Modifier;
import javax.lang.model.type.TypeKind;
import javax.tools.JavaCompiler;
import javax.tools.StandardJavaFileManager;
import javax.tools.ToolProvider;

// Reads the program's source and looks for what LANGUAGE.md rules out. In places
// it is narrower than the rules (arrays only in fields' initialisers, no loop but
// `for (int i = ..; i < ..; i++)`, array fields never as a whole), since the class
// needs no more. Rule 7 is GrantLedgerAnyInput's; 9 rules nothing out; 11 follows
// from 3.
public final class GrantLedgerLanguage extends TreePathScanner<Void, Void> {
    private static final Path SOURCE = Path.of("src/main/java/GrantLedger.java");
    private static final int RECURSION = 1000;

    private static final Map<Integer, Set<Kind>> RULED_OUT = Map.of(
        1, EnumSet.of(Kind.PACKAGE, Kind.INTERFACE, Kind.ENUM, Kind.RECORD, Kind.ANNOTATION_TYPE),
        2, EnumSet.of(Kind.STRING_LITERAL, Kind.FLOAT_LITERAL, Kind.DOUBLE_LITERAL),
        3, EnumSet.of(Kind.IMPORT, Kind.ANNOTATION),
        4, EnumSet.of(Kind.NEW_CLASS, Kind.NULL_LITERAL),
        6, EnumSet.of(Kind.THROW, Kind.TRY, Kind.SYNCHRONIZED, Kind.ASSERT, Kind.INSTANCE_OF,
            Kind.LAMBDA_EXPRESSION, Kind.MEMBER_REFERENCE),
        8, EnumSet.of(Kind.WHILE_LOOP, Kind.DO_WHILE_LOOP, Kind.ENHANCED_FOR_LOOP));

    private final CompilationUnitTree unit;
    private final Trees trees;
    private final Map<String, Set<String>> calls = new HashMap<>();
    private final Set<String> arrayFields = new TreeSet<>();
    private int fields = 0;
    private int wrong = 0;

    private GrantLedgerLanguage(CompilationUnitTree unit, Trees trees) {
        this.unit = unit;
        this.trees = trees;
    }

    public static void main(String[] args) throws Exception {
        JavaCompiler compiler = ToolProvider.getSystemJavaCompiler();
        StandardJavaFileManager files = compiler.getStandardFileManager(null, null, null);
        JavacTask task = (JavacTask) compiler.getTask(null, files, null, null, null, files.getJavaFileObjects(SOURCE));
        CompilationUnitTree unit = task.parse().iterator().next();
        GrantLedgerLanguage reader = new GrantLedgerLanguage(unit, Trees.instance(task));
        reader.readAll();
        System.out.println(reader.wrong == 0 ? "the source keeps to the rules" : reader.wrong + " places do not");
        if (reader.wrong != 0) {
            System.exit(1);
        }
    }

    private void readAll() {
        require(1, unit.getTypeDecls().size() == 1, unit);
        ClassTree type = (ClassTree) unit.getTypeDecls().get(0);
        for (Tree member : type.getMembers()) {
            if (member instanceof VariableTree field && field.getType() instanceof ArrayTypeTree) {
                arrayFields.add(field.getName().toString());
            }
        }
        scan(unit, null);
        require(10, fields <= 40, type);
        for (String method : calls.keySet()) {
            int depth = depthFrom(method, List.of());
            require(8, depth < RECURSION, type);
            require(10, depth <= 6, type);
            require(3, calls.keySet().containsAll(calls.get(method)), type);
        }
    }

    private void require(int rule, boolean kept, Tree at) {
        if (!kept) {
            wrong++;
            String text = at.toString().strip().lines().findFirst().orElse("");
            System.out.println("rule " + rule + " is not kept in line " + lineOf(startOf(at)) + ": " + text);
        }
    }

    private long startOf(Tree tree) {
        return trees.getSourcePositions().getStartPosition(unit, tree);
    }

    private long lineOf(long position) {
        return unit.getLineMap().getLineNumber(position);
    }

    // How many calls deep it goes, the method itself being the first.
    private int depthFrom(String method, List<String> above) {
        if (above.contains(method)) {
            return RECURSION;
        }
        List<String> path = new ArrayList<>(above);
        path.add(method);
        int deepest = 0;
        for (String called : calls.getOrDefault(method, Set.of())) {
            deepest = Math.max(deepest, depthFrom(called, path));
        }
        return deepest + 1;
    }

    @Override
    public Void scan(Tree tree, Void unused) {
        if (tree != null) {
            RULED_OUT.forEach((rule, kinds) -> require(rule, !kinds.contains(tree.getKind()), tree));
        }
        return super.scan(tree, unused);
    }

    @Override
    public Void visitClass(ClassTree type, Void unused) {
        require(1, getCurrentPath().getParentPath().getLeaf() == unit, type);
        return super.visitClass(type, unused);
    }

    @Override
    public Void visitBlock(BlockTree block, Void unused) {
        boolean initialiser = getCurrentPath().getParentPath().getLeaf() instanceof ClassTree;
        require(5, !initialiser, block);
        return super.visitBlock(block, unused);
    }

    @Override
    public Void visitVariable(VariableTree variable, Void unused) {
        Tree type = variable.getType();
        boolean field = isField(getCurrentPath());
        boolean fixed = variable.getModifiers().getFlags().contains(Modifier.STATIC);
        require(2, isNumber(type) || type instanceof ArrayTypeTree array && isNumber(array.getType()), variable);
        if (field && !fixed) {
            fields++;
        }
        if (field && fixed) {
            String value = String.valueOf(variable.getInitializer());
            require(5, type.toString().matches("int|long") && value.matches("-?[0-9]+L?"), variable);
        }
        return super.visitVariable(variable, unused);
    }

    private static boolean isField(TreePath path) {
        return path.getLeaf() instanceof VariableTree && path.getParentPath().getLeaf() instanceof ClassTree;
    }

    private static boolean isNumber(Tree type) {
        if (!(type instanceof PrimitiveTypeTree)) {
            return false;
        }
        TypeKind kind = ((PrimitiveTypeTree) type).getPrimitiveTypeKind();
        return kind != TypeKind.FLOAT && kind != TypeKind.DOUBLE && kind != TypeKind.VOID;
    }

    @Override
    public Void visitMethod(MethodTree method, Void unused) {
        Tree answer = method.getReturnType();
        require(4, answer == null || answer instanceof PrimitiveTypeTree, method);
        require(6, method.getThrows().isEmpty(), method);
        require(10, method.getParameters().size() <= 7, method);
        long end = trees.getSourcePositions().getEndPosition(unit, method);
        require(10, lineOf(end) - lineOf(startOf(method)) < 60, method);
        require(1, calls.put(method.getName().toString(), new TreeSet<>()) == null, method);
        return super.visitMethod(method, unused);
    }

    @Override
    public Void visitMethodInvocation(MethodInvocationTree call, Void unused) {
        require(3, call.getMethodSelect() instanceof IdentifierTree, call);
        for (TreePath up = getCurrentPath().getParentPath(); up != null; up = up.getParentPath()) {
            require(10, !(up.getLeaf() instanceof MethodInvocationTree), call);
            if (up.getLeaf() instanceof MethodTree caller) {
                calls.get(caller.getName().toString()).add(call.getMethodSelect().toString());
            }
        }
        return super.visitMethodInvocation(call, unused);
    }

    @Override
    public Void visitMemberSelect(MemberSelectTree select, Void unused) {
        boolean own = select.getExpression().toString().equals("this");
        require(3, own || select.getIdentifier().contentEquals("length"), select);
        require(4, !arrayFields.contains(select.getIdentifier().toString()), select);
        return super.visitMemberSelect(select, unused);
    }

    @Override
    public Void visitNewArray(NewArrayTree array, Void unused) {
        require(4, isField(getCurrentPath().getParentPath()), array);
        require(4, array.getInitializers() == null && array.getDimensions().size() == 1, array);
        for (ExpressionTree length : array.getDimensions()) {
            require(4, length.toString().matches("[1-9][0-9]*|[A-Z][A-Z_]*"), array);
        }
        return super.visitNewArray(array, unused);
    }

    // Where an array stands as a whole it could be compared, answered or named
    // anew; the class only ever looks at one of its places.
    @Override
    public Void visitIdentifier(IdentifierTree name, Void unused) {
        Tree around = getCurrentPath().getParentPath().getLeaf();
        boolean onePlace = around instanceof ArrayAccessTree access && access.getExpression() == name;
        require(4, onePlace || !arrayFields.contains(name.getName().toString()), around);
        return super.visitIdentifier(name, unused);
    }

    @Override
    public Void visitAssignment(AssignmentTree assignment, Void unused) {
        require(4, !arrayFields.contains(assignment.getVariable().toString().replace("this.", "")), assignment);
        return super.visitAssignment(assignment, unused);
    }

    @Override
    public Void visitTypeCast(TypeCastTree cast, Void unused) {
        require(6, isNumber(cast.getType()), cast);
        return super.visitTypeCast(cast, unused);
    }

    @Override
    public Void visitForLoop(ForLoopTree loop, Void unused) {
        String text = loop.toString().split("\\{", 2)[0].strip();
        boolean counts = text.matches("for \\(int (\\w+) = \\w+; \\1 < \\w+; \\1\\+\\+\\)");
        require(8, counts, loop);
        if (counts) {
            String counter = ((VariableTree) loop.getInitializer().get(0)).getName().toString();
            String bound = loop.getCondition().toString().replaceAll(".* < (\\w+).*", "$1");
            require(8, !changes(loop.getStatement(), counter), loop);
            require(8, !changes(loop.getStatement(), bound), loop);
        }
        return super.visitForLoop(loop, unused);
    }

    private boolean changes(Tree body, String name) {
        boolean[] found = {false};
        new TreePathScanner<Void, Void>() {
            @Override
            public Void visitAssignment(AssignmentTree tree, Void unused) {
                found[0] |= tree.getVariable().toString().equals(name);
                return super.visitAssignment(tree, unused);
            }

            @Override
            public Void visitCompoundAssignment(CompoundAssignmentTree tree, Void unused) {
                found[0] |= tree.getVariable().toString().equals(name);
                return super.visitCompoundAssignment(tree, unused);
            }

            @Override
            public Void visitUnary(UnaryTree tree, Void unused) {
                boolean steps = tree.toString().contains("++") || tree.toString().contains("--");
                found[0] |= steps && tree.getExpression().toString().equals(name);
                return super.visitUnary(tree, unused);
            }
        }.scan(new TreePath(getCurrentPath(), body), null);
        return found[0];
    }
}
