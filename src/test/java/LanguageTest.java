import com.sun.source.tree.ArrayTypeTree;
import com.sun.source.tree.ClassTree;
import com.sun.source.tree.CompilationUnitTree;
import com.sun.source.tree.ForLoopTree;
import com.sun.source.tree.IdentifierTree;
import com.sun.source.tree.LiteralTree;
import com.sun.source.tree.MemberSelectTree;
import com.sun.source.tree.MethodInvocationTree;
import com.sun.source.tree.MethodTree;
import com.sun.source.tree.NewArrayTree;
import com.sun.source.tree.PrimitiveTypeTree;
import com.sun.source.tree.Tree;
import com.sun.source.tree.Tree.Kind;
import com.sun.source.tree.TypeCastTree;
import com.sun.source.tree.VariableTree;
import com.sun.source.util.JavacTask;
import com.sun.source.util.SourcePositions;
import com.sun.source.util.TreeScanner;
import com.sun.source.util.Trees;
import java.io.IOException;
import java.nio.file.Path;
import java.util.EnumSet;
import java.util.HashSet;
import java.util.Map;
import java.util.Set;
import java.util.TreeMap;
import java.util.TreeSet;
import javax.lang.model.element.Modifier;
import javax.lang.model.type.TypeKind;
import javax.tools.JavaCompiler;
import javax.tools.StandardJavaFileManager;
import javax.tools.ToolProvider;

/** The rules of LANGUAGE.md, as far as they show in the source's tree, and rule 7 by calls with odd arguments. */
public final class LanguageTest {
    private static final Checks CHECKS = new Checks();
    private static final Path SOURCE = Path.of("src", "main", "java", "MapReduceRun.java");
    private static final Set<Kind> LITERALS =
            EnumSet.of(Kind.INT_LITERAL, Kind.LONG_LITERAL, Kind.CHAR_LITERAL, Kind.BOOLEAN_LITERAL);
    private static final Set<TypeKind> NUMBERS = EnumSet.of(TypeKind.INT, TypeKind.LONG, TypeKind.SHORT, TypeKind.BYTE,
            TypeKind.CHAR, TypeKind.BOOLEAN);
    private static final Set<Kind> FORBIDDEN = EnumSet.of(Kind.THROW, Kind.TRY, Kind.CATCH, Kind.SYNCHRONIZED, Kind.ASSERT,
            Kind.INSTANCE_OF, Kind.LAMBDA_EXPRESSION, Kind.MEMBER_REFERENCE, Kind.NEW_CLASS);

    public static void main(String[] args) throws IOException {
        JavaCompiler compiler = ToolProvider.getSystemJavaCompiler();
        try (StandardJavaFileManager files = compiler.getStandardFileManager(null, null, null)) {
            JavacTask task = (JavacTask) compiler.getTask(null, files, null, null, null, files.getJavaFileObjects(SOURCE));
            CompilationUnitTree unit = task.parse().iterator().next();
            oneClass(unit);
            new Scan(unit, Trees.instance(task).getSourcePositions()).go();
        }
        noCallThrows();
        CHECKS.end();
    }

    private static void oneClass(CompilationUnitTree unit) {
        CHECKS.sentence("1. One class");
        CHECKS.due("there is no package line", unit.getPackage() == null, true);
        CHECKS.due("classes", unit.getTypeDecls().size(), 1);
        for (Tree member : ((ClassTree) unit.getTypeDecls().get(0)).getMembers()) {
            CHECKS.due("a field or a method: " + member, member.getKind() == Kind.VARIABLE || member.getKind() == Kind.METHOD, true);
        }
        CHECKS.sentence("3. nothing is imported");
        CHECKS.due("imports", unit.getImports().size(), 0);
    }

    /** Goes through the whole tree once and keeps who calls whom. */
    private static final class Scan extends TreeScanner<Void, Void> {
        private final CompilationUnitTree unit;
        private final SourcePositions positions;
        private final Map<String, Set<String>> calls = new TreeMap<>();
        private final Set<String> publicNames = new TreeSet<>();
        private final Set<String> privateNames = new TreeSet<>();
        private final Set<String> constants = new HashSet<>();
        private int fields = 0;
        private String method = "";
        private int callsAround = 0;

        Scan(CompilationUnitTree unit, SourcePositions positions) {
            this.unit = unit;
            this.positions = positions;
        }

        void go() {
            scan(unit, null);
            CHECKS.sentence("1. No private method bears the name of a public one");
            Set<String> both = new TreeSet<>(privateNames);
            both.retainAll(publicNames);
            CHECKS.due("names of both " + both, both.isEmpty(), true);
            CHECKS.sentence("3. none of Object's methods is called");
            for (Set<String> called : calls.values()) {
                CHECKS.due("all are methods of the class: " + called, calls.keySet().containsAll(called), true);
            }
            CHECKS.sentence("8. No recursion, 10. calls go at most six deep");
            for (String name : calls.keySet()) {
                int deep = depth(name, new HashSet<>());
                CHECKS.due(name + " calls " + deep + " deep, at most six", deep <= 6, true);
            }
            CHECKS.sentence("10. at most some forty fields beside its constants");
            CHECKS.due(fields + " fields are at most forty", fields <= 40, true);
        }

        private int depth(String name, Set<String> callers) {
            if (!callers.add(name)) {
                return Integer.MAX_VALUE / 2;
            }
            int deepest = 0;
            for (String called : calls.getOrDefault(name, Set.of())) {
                deepest = Math.max(deepest, depth(called, callers));
            }
            callers.remove(name);
            return deepest + 1;
        }

        private long lineOf(long position) {
            return unit.getLineMap().getLineNumber(position);
        }

        private void rule(String words, Tree tree, boolean kept) {
            CHECKS.sentence(words);
            CHECKS.due("line " + lineOf(positions.getStartPosition(unit, tree)) + ": " + tree, kept, true);
        }

        @Override
        public Void scan(Tree tree, Void none) {
            if (tree != null) {
                rule("6. No throw, try, catch .. 4. A method makes no object", tree, !FORBIDDEN.contains(tree.getKind()));
            }
            return super.scan(tree, none);
        }

        @Override
        public Void visitVariable(VariableTree variable, Void none) {
            rule("2. Types", variable, isAllowedType(variable.getType()));
            if (method.isEmpty()) {
                field(variable);
            }
            return super.visitVariable(variable, none);
        }

        private void field(VariableTree field) {
            Set<Modifier> modifiers = field.getModifiers().getFlags();
            boolean isArray = field.getType() instanceof ArrayTypeTree;
            if (!modifiers.contains(Modifier.STATIC)) {
                fields++;
                rule("4. no method assigns to an array field", field, !isArray || modifiers.contains(Modifier.FINAL));
                return;
            }
            constants.add(field.getName().toString());
            String type = field.getType().toString();
            rule("5. Static fields are compile-time constants of int or long alone", field,
                    modifiers.contains(Modifier.FINAL) && (type.equals("int") || type.equals("long")));
        }

        private static boolean isAllowedType(Tree type) {
            Tree element = type instanceof ArrayTypeTree ? ((ArrayTypeTree) type).getType() : type;
            return element instanceof PrimitiveTypeTree && NUMBERS.contains(((PrimitiveTypeTree) element).getPrimitiveTypeKind());
        }

        @Override
        public Void visitMethod(MethodTree tree, Void none) {
            method = tree.getName().toString();
            boolean isPrivate = tree.getModifiers().getFlags().contains(Modifier.PRIVATE);
            (isPrivate ? privateNames : publicNames).add(method);
            calls.computeIfAbsent(method, name -> new TreeSet<>());
            long lines = lineOf(positions.getEndPosition(unit, tree)) - lineOf(positions.getStartPosition(unit, tree)) + 1;
            rule("10. Methods stay short (some sixty lines)", tree, lines <= 60);
            rule("10. A method takes at most seven parameters", tree, tree.getParameters().size() <= 7);
            rule("4. An array is never answered by a method", tree, !(tree.getReturnType() instanceof ArrayTypeTree));
            super.visitMethod(tree, none);
            method = "";
            return null;
        }

        @Override
        public Void visitMethodInvocation(MethodInvocationTree call, Void none) {
            rule("3. No class of the Java library", call, call.getMethodSelect() instanceof IdentifierTree);
            rule("10. no call stands inside the arguments of another call", call, callsAround == 0);
            calls.computeIfAbsent(method, name -> new TreeSet<>()).add(call.getMethodSelect().toString());
            callsAround++;
            super.visitMethodInvocation(call, none);
            callsAround--;
            return null;
        }

        @Override
        public Void visitNewArray(NewArrayTree array, Void none) {
            rule("4. Arrays are made in a field's initialiser", array, method.isEmpty());
            boolean oneLength = array.getDimensions().size() == 1 && array.getInitializers() == null;
            rule("4. with a length .. that is a literal or a constant", array, oneLength && isConstant(array.getDimensions().get(0)));
            return super.visitNewArray(array, none);
        }

        private boolean isConstant(Tree length) {
            return length.getKind() == Kind.INT_LITERAL || constants.contains(length.toString());
        }

        @Override
        public Void visitLiteral(LiteralTree literal, Void none) {
            rule("2. No float or double. No String, 4. null isn't used at all", literal, LITERALS.contains(literal.getKind()));
            return super.visitLiteral(literal, none);
        }

        @Override
        public Void visitMemberSelect(MemberSelectTree select, Void none) {
            boolean own = select.getExpression().toString().equals("this");
            rule("3. No class of the Java library", select, own || select.getIdentifier().contentEquals("length"));
            return super.visitMemberSelect(select, none);
        }

        @Override
        public Void visitTypeCast(TypeCastTree cast, Void none) {
            rule("6. No .. cast of a reference", cast, cast.getType() instanceof PrimitiveTypeTree);
            return super.visitTypeCast(cast, none);
        }

        @Override
        public Void visitForLoop(ForLoopTree loop, Void none) {
            rule("8. Every loop has an end that can be seen from its own lines", loop, loop.getCondition() != null);
            return super.visitForLoop(loop, none);
        }
    }

    // 'In any state' is also the state after the 512th call, though the answers are free there.
    private static void noCallThrows() {
        CHECKS.sentence("7. No call may ever throw or fail to end, for any arguments in any state");
        int[] odd = {Integer.MIN_VALUE, -17, -1, 0, 1, 2, 3, 4, 5, 15, 16, 17, 64, Integer.MAX_VALUE};
        for (int a : odd) {
            MapReduceRun x = new MapReduceRun(a, a);
            for (int round = 0; round < 20; round++) {
                for (int b : odd) {
                    for (int c : odd) {
                        callAll(x, b, c);
                    }
                }
            }
        }
    }

    private static void callAll(MapReduceRun x, int b, int c) {
        x.addRecord(b, c, b);
        x.addRecord(c & 3, b, c);
        x.mapping(b, c, b);
        x.bounds(b, c);
        x.failures(true, b, c);
        x.failures(false, b, c);
        x.run(b);
        x.results(b);
        x.keyAt(b, c);
        x.valueAt(b, c);
        x.mapped();
        if (b == c) {
            x.feedBack();
            x.emptySplit(b);
        }
    }
}
