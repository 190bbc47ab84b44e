import com.sun.source.tree.*;
import com.sun.source.util.JavacTask;
import com.sun.source.util.SourcePositions;
import com.sun.source.util.TreePathScanner;
import com.sun.source.util.Trees;
import java.io.File;
import java.util.ArrayList;
import java.util.HashMap;
import java.util.HashSet;
import java.util.List;
import java.util.Map;
import java.util.Set;
import java.util.TreeSet;
import javax.lang.model.element.Modifier;
import javax.lang.model.type.TypeKind;
import javax.tools.JavaCompiler;
import javax.tools.StandardJavaFileManager;
import javax.tools.ToolProvider;

/**
 * The program keeps to ../shared/LANGUAGE.md, as far as its text shows: rules 1 to 6, 8 (recursion),
 * 10 and, since no library can be named, 11. Rule 7 and the ends of loops in rule 8 need a reader.
 * Where rules 4 and 5 leave several ways, this asks for the one the program takes: arrays are made in
 * the initialisers of final fields, only their elements are used, and a constant is a literal.
 */
public final class LanguageTest extends TreePathScanner<Void, Void> {
    private static final Set<TypeKind> NUMBERS = Set.of(
        TypeKind.INT, TypeKind.LONG, TypeKind.SHORT, TypeKind.BYTE, TypeKind.CHAR, TypeKind.BOOLEAN);
    private static final Set<Tree.Kind> FORBIDDEN = Set.of(
        Tree.Kind.THROW, Tree.Kind.TRY, Tree.Kind.SYNCHRONIZED, Tree.Kind.ASSERT, Tree.Kind.INSTANCE_OF,
        Tree.Kind.LAMBDA_EXPRESSION, Tree.Kind.MEMBER_REFERENCE);
    private static final Set<Tree.Kind> LITERALS = Set.of(
        Tree.Kind.INT_LITERAL, Tree.Kind.LONG_LITERAL, Tree.Kind.CHAR_LITERAL, Tree.Kind.BOOLEAN_LITERAL);
    private static final Set<Modifier> METHOD_FLAGS = Set.of(Modifier.PUBLIC, Modifier.PRIVATE, Modifier.STATIC);
    private static final int MOST_LINES = 60;
    private static final int MOST_FIELDS = 40;
    private static final int MOST_PARAMETERS = 7;
    private static final int DEEPEST = 6;

    private final CompilationUnitTree unit;
    private final SourcePositions positions;
    private final Set<String> methods = new HashSet<>();
    private final Set<String> variables = new HashSet<>();
    private final Set<String> arrays = new HashSet<>();
    private final Set<String> constants = new HashSet<>();
    private final Map<String, Set<String>> calls = new HashMap<>();
    private final Set<String> faults = new TreeSet<>();
    private String method = "";
    private boolean insideArguments = false;

    private LanguageTest(CompilationUnitTree unit, SourcePositions positions) {
        this.unit = unit;
        this.positions = positions;
    }

    private long line(Tree tree) {
        return unit.getLineMap().getLineNumber(positions.getStartPosition(unit, tree));
    }

    private void fault(int rule, Tree tree, String what) {
        faults.add("rule " + rule + ", line " + line(tree) + ": " + what);
    }

    private void checkFile() {
        if (unit.getPackageName() != null || !unit.getImports().isEmpty() || unit.getTypeDecls().size() != 1) {
            fault(1, unit, "the file has more than one class, or a package or an import");
        }
        ClassTree program = (ClassTree) unit.getTypeDecls().get(0);
        if (!program.getModifiers().getFlags().equals(Set.of(Modifier.PUBLIC, Modifier.FINAL))
            || program.getExtendsClause() != null || !program.getImplementsClause().isEmpty()) {
            fault(1, program, "the class is not just public and final");
        }
        collectNames(program);
        scan(unit, null);
        for (String start : calls.keySet()) {
            checkDepth(start, List.of());
        }
    }

    private void collectNames(ClassTree program) {
        Set<String> open = new HashSet<>();
        int fields = 0;
        for (Tree member : program.getMembers()) {
            if (member instanceof MethodTree m) {
                methods.add(m.getName().toString());
                if (!m.getModifiers().getFlags().contains(Modifier.PRIVATE)) {
                    open.add(m.getName().toString());
                }
            } else if (member instanceof VariableTree v) {
                boolean constant = v.getModifiers().getFlags().contains(Modifier.STATIC);
                fields += constant ? 0 : 1;
                if (constant) {
                    constants.add(v.getName().toString());
                }
            }
        }
        if (fields > MOST_FIELDS) {
            fault(10, program, fields + " fields");
        }
        for (Tree member : program.getMembers()) {
            if (member instanceof MethodTree m && m.getModifiers().getFlags().contains(Modifier.PRIVATE)
                && open.contains(m.getName().toString())) {
                fault(1, m, "a private method bears the name of a public one");
            }
        }
        new TreePathScanner<Void, Void>() {
            @Override
            public Void visitVariable(VariableTree v, Void none) {
                variables.add(v.getName().toString());
                if (v.getType() instanceof ArrayTypeTree) {
                    arrays.add(v.getName().toString());
                }
                return super.visitVariable(v, none);
            }
        }.scan(unit, null);
    }

    private void checkDepth(String name, List<String> above) {
        if (above.contains(name)) {
            faults.add("rule 8: recursion by " + above + " to " + name);
            return;
        }
        List<String> chain = new ArrayList<>(above);
        chain.add(name);
        if (chain.size() > DEEPEST) {
            faults.add("rule 10: calls go deeper than " + DEEPEST + ": " + chain);
            return;
        }
        for (String called : calls.getOrDefault(name, Set.of())) {
            checkDepth(called, chain);
        }
    }

    private static boolean isNumber(Tree type) {
        return type instanceof PrimitiveTypeTree p && NUMBERS.contains(p.getPrimitiveTypeKind());
    }

    @Override
    public Void scan(Tree tree, Void none) {
        if (tree != null && FORBIDDEN.contains(tree.getKind())) {
            fault(6, tree, "" + tree.getKind());
        }
        return super.scan(tree, none);
    }

    @Override
    public Void visitClass(ClassTree c, Void none) {
        if (!unit.getTypeDecls().contains(c)) {
            fault(1, c, "a nested class");
        }
        return super.visitClass(c, none);
    }

    @Override
    public Void visitBlock(BlockTree b, Void none) {
        if (b.isStatic()) {
            fault(5, b, "a static initialiser");
        }
        return super.visitBlock(b, none);
    }

    @Override
    public Void visitMethod(MethodTree m, Void none) {
        Tree answer = m.getReturnType();
        boolean isVoid = answer instanceof PrimitiveTypeTree p && p.getPrimitiveTypeKind() == TypeKind.VOID;
        if (answer != null && !isVoid && !isNumber(answer)) {
            fault(4, m, "answers neither a number nor nothing");
        }
        if (m.getParameters().size() > MOST_PARAMETERS) {
            fault(10, m, m.getParameters().size() + " parameters");
        }
        if (!m.getThrows().isEmpty() || !METHOD_FLAGS.containsAll(m.getModifiers().getFlags())) {
            fault(6, m, "throws something, or is more than public, private or static");
        }
        long last = unit.getLineMap().getLineNumber(positions.getEndPosition(unit, m));
        if (last - line(m) + 1 > MOST_LINES) {
            fault(10, m, "longer than " + MOST_LINES + " lines");
        }
        method = m.getName().toString();
        calls.putIfAbsent(method, new TreeSet<>());
        super.visitMethod(m, none);
        method = "";
        return null;
    }

    @Override
    public Void visitVariable(VariableTree v, Void none) {
        boolean array = v.getType() instanceof ArrayTypeTree a && isNumber(a.getType());
        if (!array && !isNumber(v.getType())) {
            fault(2, v, "the type of " + v.getName());
        }
        Set<Modifier> flags = v.getModifiers().getFlags();
        boolean field = getCurrentPath().getParentPath().getLeaf() instanceof ClassTree;
        if (field && array && !flags.contains(Modifier.FINAL)) {
            fault(4, v, "a method could assign to the array field " + v.getName());
        }
        if (flags.contains(Modifier.STATIC) && !isConstant(v)) {
            fault(5, v, "the static field " + v.getName() + " is not a constant of int or long");
        }
        return super.visitVariable(v, none);
    }

    private static boolean isConstant(VariableTree v) {
        boolean whole = v.getType() instanceof PrimitiveTypeTree p
            && (p.getPrimitiveTypeKind() == TypeKind.INT || p.getPrimitiveTypeKind() == TypeKind.LONG);
        Tree value = v.getInitializer() instanceof UnaryTree u ? u.getExpression() : v.getInitializer();
        return whole && v.getModifiers().getFlags().contains(Modifier.FINAL) && value instanceof LiteralTree;
    }

    @Override
    public Void visitNewArray(NewArrayTree n, Void none) {
        Tree parent = getCurrentPath().getParentPath().getLeaf();
        Tree grandparent = getCurrentPath().getParentPath().getParentPath().getLeaf();
        if (!(parent instanceof VariableTree) || !(grandparent instanceof ClassTree)) {
            fault(4, n, "an array is made outside a field's initialiser");
        }
        if (n.getDimensions().size() != 1 || !isLength(n.getDimensions().get(0))) {
            fault(4, n, "the length is no literal or constant");
        }
        return super.visitNewArray(n, none);
    }

    private boolean isLength(Tree length) {
        boolean literal = length instanceof LiteralTree l && l.getValue() instanceof Integer i && i > 0;
        return literal || length instanceof IdentifierTree i && constants.contains(i.getName().toString());
    }

    @Override
    public Void visitNewClass(NewClassTree n, Void none) {
        fault(4, n, "an object is made");
        return super.visitNewClass(n, none);
    }

    @Override
    public Void visitTypeCast(TypeCastTree t, Void none) {
        if (!isNumber(t.getType())) {
            fault(6, t, "a cast to something else than a number");
        }
        return super.visitTypeCast(t, none);
    }

    @Override
    public Void visitLiteral(LiteralTree l, Void none) {
        if (!LITERALS.contains(l.getKind())) {
            fault(2, l, "the literal " + l);
        }
        return super.visitLiteral(l, none);
    }

    @Override
    public Void visitIdentifier(IdentifierTree i, Void none) {
        String name = i.getName().toString();
        if (!variables.contains(name) && !name.equals("this")) {
            fault(3, i, name + " is not of this class");
        }
        Tree around = getCurrentPath().getParentPath().getLeaf();
        boolean indexed = around instanceof ArrayAccessTree a && a.getExpression() == i;
        if (arrays.contains(name) && !indexed && !(around instanceof MemberSelectTree)) {
            fault(4, i, "the array " + name + " is used as a whole");
        }
        return super.visitIdentifier(i, none);
    }

    @Override
    public Void visitMemberSelect(MemberSelectTree s, Void none) {
        boolean own = s.getExpression().toString().equals("this") && variables.contains(s.getIdentifier().toString());
        if (!own && !s.getIdentifier().contentEquals("length")) {
            fault(3, s, s + " is not of this class");
        }
        return super.visitMemberSelect(s, none);
    }

    @Override
    public Void visitMethodInvocation(MethodInvocationTree call, Void none) {
        if (insideArguments) {
            fault(10, call, "a call inside the arguments of another one");
        }
        String name = call.getMethodSelect().toString().replaceFirst("^this\\.", "");
        if (methods.contains(name)) {
            calls.computeIfAbsent(method, k -> new TreeSet<>()).add(name);
        } else {
            fault(3, call, name + " is not of this class");
        }
        boolean before = insideArguments;
        insideArguments = true;
        scan(call.getArguments(), none);
        insideArguments = before;
        return null;
    }

    public static void main(String[] args) throws Exception {
        JavaCompiler compiler = ToolProvider.getSystemJavaCompiler();
        StandardJavaFileManager files = compiler.getStandardFileManager(null, null, null);
        JavacTask task = (JavacTask) compiler.getTask(null, files, null, List.of("--release", "17"), null,
            files.getJavaFileObjects(new File("src/main/java/BoxGame.java")));
        CompilationUnitTree unit = task.parse().iterator().next();
        LanguageTest test = new LanguageTest(unit, Trees.instance(task).getSourcePositions());
        test.checkFile();
        test.faults.forEach(System.out::println);
        System.out.println(test.faults.isEmpty() ? "the rules are kept" : test.faults.size() + " faults");
        if (!test.faults.isEmpty()) {
            System.exit(1);
        }
    }
}
