import com.sun.source.tree.*;
import com.sun.source.util.JavacTask;
import com.sun.source.util.SourcePositions;
import com.sun.source.util.TreeScanner;
import com.sun.source.util.Trees;
import java.io.IOException;
import java.net.URI;
import java.nio.file.Files;
import java.nio.file.Path;
import java.util.ArrayList;
import java.util.List;
import java.util.Map;
import java.util.Set;
import java.util.TreeMap;
import java.util.TreeSet;
import javax.lang.model.element.Modifier;
import javax.lang.model.type.TypeKind;
import javax.tools.JavaFileObject;
import javax.tools.SimpleJavaFileObject;
import javax.tools.ToolProvider;

/**
 * The program keeps to the rules of LANGUAGE.md that its text can show. The public face (rule 1)
 * is FaceTest's; that no call throws (rule 7) is shown by the tests that call it with wrong inputs.
 */
public final class LanguageTest {
    private static final Path PROGRAM = Path.of("src/main/java/CrashPlanner.java");
    private static final int MOST_PARAMETERS = 7;
    private static final int MOST_LINES = 60;
    private static final int MOST_CALLS_DEEP = 6;
    private static final int MOST_FIELDS = 40;
    private static final Set<TypeKind> KINDS = Set.of(TypeKind.INT, TypeKind.LONG, TypeKind.SHORT,
        TypeKind.BYTE, TypeKind.CHAR, TypeKind.BOOLEAN);

    /** A text that is no file, so that the rules can be tried on code that breaks them. */
    private static final class Source extends SimpleJavaFileObject {
        private final String text;

        Source(String text) {
            super(URI.create("string:///CrashPlanner.java"), JavaFileObject.Kind.SOURCE);
            this.text = text;
        }

        @Override
        public CharSequence getCharContent(boolean ignoreEncodingErrors) {
            return text;
        }
    }

    private static final class Rules extends TreeScanner<Void, Void> {
        final List<String> broken = new ArrayList<>();
        private final Map<String, Set<String>> calls = new TreeMap<>();
        private final Set<String> arrayFields = new TreeSet<>();
        private final Set<String> constants = new TreeSet<>();
        private final CompilationUnitTree unit;
        private final SourcePositions positions;
        private String method = null;
        private boolean inField = false;
        private boolean inArguments = false;
        private int fields = 0;

        Rules(CompilationUnitTree unit, SourcePositions positions) {
            this.unit = unit;
            this.positions = positions;
        }

        private long line(long position) {
            return unit.getLineMap().getLineNumber(position);
        }

        private void breaks(int rule, Tree at, String what) {
            broken.add("rule " + rule + ", line " + line(positions.getStartPosition(unit, at)) + ": " + what);
        }

        private void check(int rule, Tree at, String what, boolean holds) {
            if (!holds) {
                breaks(rule, at, what);
            }
        }

        private boolean isNumberOrBoolean(Tree type) {
            return type instanceof PrimitiveTypeTree p && KINDS.contains(p.getPrimitiveTypeKind());
        }

        private boolean isArrayField(Tree tree) {
            return tree instanceof IdentifierTree name && arrayFields.contains(name.getName().toString());
        }

        private boolean isConstantNotZero(Tree tree) {
            return tree instanceof LiteralTree number && !number.getValue().equals(0)
                || tree instanceof IdentifierTree name && constants.contains(name.getName().toString());
        }

        @Override
        public Void visitCompilationUnit(CompilationUnitTree node, Void none) {
            check(1, node, "one class", node.getTypeDecls().size() == 1);
            check(1, node, "no package line", node.getPackage() == null);
            check(3, node, "nothing is imported", node.getImports().isEmpty());
            return super.visitCompilationUnit(node, none);
        }

        @Override
        public Void visitClass(ClassTree node, Void none) {
            for (Tree member : node.getMembers()) {
                check(1, member, "no nested class", !(member instanceof ClassTree));
                check(5, member, "no initialiser block", !(member instanceof BlockTree));
                if (member instanceof VariableTree field) {
                    noteField(field);
                } else if (member instanceof MethodTree it) {
                    calls.putIfAbsent(it.getName().toString(), new TreeSet<>());
                }
            }
            check(10, node, "at most forty fields", fields <= MOST_FIELDS);
            super.visitClass(node, none);
            for (String name : calls.keySet()) {
                check(8, node, name + " does not lead to itself, and calls go six deep at most",
                    depth(name, 1) <= MOST_CALLS_DEEP);
            }
            return null;
        }

        private void noteField(VariableTree field) {
            if (field.getType() instanceof ArrayTypeTree) {
                arrayFields.add(field.getName().toString());
            }
            if (field.getModifiers().getFlags().contains(Modifier.STATIC)) {
                constants.add(field.getName().toString());
                check(5, field, "a static field is a constant of int or long", isConstant(field));
            } else {
                fields++;
            }
        }

        private boolean isConstant(VariableTree field) {
            return field.getModifiers().getFlags().contains(Modifier.FINAL)
                && field.getInitializer() != null
                && field.getType() instanceof PrimitiveTypeTree p
                && Set.of(TypeKind.INT, TypeKind.LONG).contains(p.getPrimitiveTypeKind());
        }

        /** How deep calls go from a method; a ring of calls counts as deeper than allowed. */
        private int depth(String from, int so) {
            int deepest = so;
            if (so <= MOST_CALLS_DEEP) {
                for (String to : calls.getOrDefault(from, Set.of())) {
                    deepest = Math.max(deepest, depth(to, so + 1));
                }
            }
            return deepest;
        }

        @Override
        public Void visitMethod(MethodTree node, Void none) {
            method = node.getName().toString();
            Tree type = node.getReturnType();
            check(4, node, "a method answers no array and no object", type == null || isNumberOrBoolean(type)
                || type instanceof PrimitiveTypeTree p && p.getPrimitiveTypeKind() == TypeKind.VOID);
            check(10, node, "at most seven parameters", node.getParameters().size() <= MOST_PARAMETERS);
            check(6, node, "throws nothing", node.getThrows().isEmpty());
            long lines = line(positions.getEndPosition(unit, node)) - line(positions.getStartPosition(unit, node)) + 1;
            check(10, node, "methods stay short", lines <= MOST_LINES);
            super.visitMethod(node, none);
            method = null;
            return null;
        }

        @Override
        public Void visitVariable(VariableTree node, Void none) {
            boolean plain = isNumberOrBoolean(node.getType())
                || node.getType() instanceof ArrayTypeTree array && isNumberOrBoolean(array.getType());
            check(2, node, node.getName() + " is a whole number, a boolean or an array of these", plain);
            inField = method == null;
            super.visitVariable(node, none);
            inField = false;
            return null;
        }

        @Override
        public Void visitLiteral(LiteralTree node, Void none) {
            check(2, node, "no literal but whole numbers, chars and booleans", Set.of(Tree.Kind.INT_LITERAL,
                Tree.Kind.LONG_LITERAL, Tree.Kind.CHAR_LITERAL, Tree.Kind.BOOLEAN_LITERAL).contains(node.getKind()));
            return null;
        }

        @Override
        public Void visitMemberSelect(MemberSelectTree node, Void none) {
            boolean own = node.getExpression() instanceof IdentifierTree name && name.getName().contentEquals("this");
            check(3, node, "nothing of another class is used", own || node.getIdentifier().contentEquals("length"));
            return super.visitMemberSelect(node, none);
        }

        @Override
        public Void visitNewArray(NewArrayTree node, Void none) {
            check(4, node, "an array is made in a field's initialiser", inField);
            check(4, node, "an array has one constant length", node.getInitializers() == null
                && node.getDimensions().size() == 1 && isConstantNotZero(node.getDimensions().get(0)));
            return super.visitNewArray(node, none);
        }

        @Override
        public Void visitNewClass(NewClassTree node, Void none) {
            breaks(4, node, "no object is made");
            return super.visitNewClass(node, none);
        }

        @Override
        public Void visitAssignment(AssignmentTree node, Void none) {
            check(4, node, "no array field is assigned to", !isArrayField(node.getVariable()));
            return super.visitAssignment(node, none);
        }

        @Override
        public Void visitBinary(BinaryTree node, Void none) {
            check(4, node, "arrays are not compared",
                !isArrayField(node.getLeftOperand()) && !isArrayField(node.getRightOperand()));
            if (node.getKind() == Tree.Kind.DIVIDE || node.getKind() == Tree.Kind.REMAINDER) {
                checkDivisor(node, node.getRightOperand());
            }
            return super.visitBinary(node, none);
        }

        @Override
        public Void visitCompoundAssignment(CompoundAssignmentTree node, Void none) {
            if (node.getKind() == Tree.Kind.DIVIDE_ASSIGNMENT || node.getKind() == Tree.Kind.REMAINDER_ASSIGNMENT) {
                checkDivisor(node, node.getExpression());
            }
            return super.visitCompoundAssignment(node, none);
        }

        /** Stricter than the rule: the program divides by constants only, so nothing need be looked at. */
        private void checkDivisor(Tree node, Tree divisor) {
            check(7, node, "a divisor is a constant other than 0", isConstantNotZero(divisor));
        }

        /** Stricter than the rule: every loop is a for loop, with a bound and a step of its counter. */
        @Override
        public Void visitForLoop(ForLoopTree node, Void none) {
            boolean counts = node.getCondition() instanceof BinaryTree bound && bound.getKind() == Tree.Kind.LESS_THAN
                && node.getUpdate().size() == 1
                && node.getUpdate().get(0).getExpression() instanceof UnaryTree step
                && step.getKind() == Tree.Kind.POSTFIX_INCREMENT
                && step.getExpression().toString().equals(bound.getLeftOperand().toString());
            check(8, node, "a loop counts up to a bound", counts);
            return super.visitForLoop(node, none);
        }

        @Override
        public Void visitWhileLoop(WhileLoopTree node, Void none) {
            breaks(8, node, "a loop counts up to a bound");
            return super.visitWhileLoop(node, none);
        }

        @Override
        public Void visitDoWhileLoop(DoWhileLoopTree node, Void none) {
            breaks(8, node, "a loop counts up to a bound");
            return super.visitDoWhileLoop(node, none);
        }

        @Override
        public Void visitEnhancedForLoop(EnhancedForLoopTree node, Void none) {
            breaks(8, node, "a loop counts up to a bound");
            return super.visitEnhancedForLoop(node, none);
        }

        @Override
        public Void visitMethodInvocation(MethodInvocationTree node, Void none) {
            String name = node.getMethodSelect().toString();
            // The compiler puts super() into a constructor that calls no other.
            if (!name.equals("super")) {
                check(3, node, name + " is a method of the class", calls.containsKey(name));
                check(10, node, "no call stands inside the arguments of another", !inArguments);
            }
            if (method != null) {
                calls.get(method).add(name);
            }
            boolean outside = inArguments;
            inArguments = true;
            scan(node.getArguments(), none);
            inArguments = outside;
            return null;
        }

        @Override
        public Void visitTypeCast(TypeCastTree node, Void none) {
            check(6, node, "a cast is between number types", isNumberOrBoolean(node.getType()));
            return super.visitTypeCast(node, none);
        }

        @Override
        public Void scan(Tree node, Void none) {
            if (node != null && Set.of(Tree.Kind.THROW, Tree.Kind.TRY, Tree.Kind.SYNCHRONIZED, Tree.Kind.ASSERT,
                    Tree.Kind.INSTANCE_OF, Tree.Kind.LAMBDA_EXPRESSION, Tree.Kind.MEMBER_REFERENCE)
                    .contains(node.getKind())) {
                breaks(6, node, "no " + node.getKind());
            }
            return super.scan(node, none);
        }
    }

    private static List<String> broken(String text) throws IOException {
        JavacTask task = (JavacTask) ToolProvider.getSystemJavaCompiler().getTask(
            null, null, null, List.of(), null, List.of(new Source(text)));
        CompilationUnitTree unit = task.parse().iterator().next();
        Rules rules = new Rules(unit, Trees.instance(task).getSourcePositions());
        rules.scan(unit, null);
        return rules.broken;
    }

    /** A rule that sees nothing would pass everything: each is tried on a line that breaks it. */
    private static final String[][] BREAKERS = {
        {"2", "double a;"}, {"2", "String s;"}, {"2", "int[][] a;"}, {"2", "Object o = null;"},
        {"2", "int f() { return 1.5 > 1 ? 1 : 0; }"},
        {"3", "int f() { return Math.abs(1); }"}, {"3", "int f() { return hashCode(); }"},
        {"4", "int f() { int[] a = new int[3]; return 1; }"}, {"4", "int n; int[] a = new int[n];"},
        {"4", "int[] a = {1, 2};"}, {"4", "int[] a = new int[0];"}, {"4", "int[] a = new int[2]; int[] f() { return a; }"},
        {"4", "int[] a = new int[2]; int[] b = new int[2]; void f() { a = b; }"},
        {"4", "int[] a = new int[2]; int[] b = new int[2]; boolean f() { return a == b; }"},
        {"4", "void f() { g(new CrashPlanner()); } void g(int a) { }"},
        {"5", "static int a = 1;"}, {"5", "static final int[] A = new int[1];"}, {"5", "static { }"},
        {"6", "void f() { throw null; }"}, {"6", "void f() { try { } finally { } }"},
        {"6", "void f() { assert true; }"}, {"6", "void f() { synchronized (this) { } }"},
        {"6", "int f(int[] a) { return ((int[]) a)[0]; }"},
        {"7", "int f(int a) { return 1 / a; }"}, {"7", "int f(int a) { return a / 0; }"}, {"7", "int f(int a) { a %= a; return a; }"},
        {"8", "void f() { f(); }"}, {"8", "void f() { g(); } void g() { f(); }"},
        {"8", "void f() { while (true) { } }"}, {"8", "void f() { for (;;) { } }"},
        {"8", "void f() { do { } while (true); }"}, {"8", "void f() { for (int a = 0; a < 3; ) { } }"},
        {"8", "void a() { b(); } void b() { c(); } void c() { d(); } void d() { e(); } void e() { f(); }"
            + " void f() { g(); } void g() { }"},
        {"10", "void f(int a, int b, int c, int d, int e, int g, int h, int i) { }"},
        {"10", "int f(int a) { return a; } int g() { return f(1 + h()); } int h() { return 1; }"},
        {"10", "void f() { " + "\n".repeat(60) + "}"},
        {"10", "int a0" + fieldNames(40) + ";"},
        {"1", "class Inner { }"},
    };

    private static String fieldNames(int count) {
        StringBuilder names = new StringBuilder();
        for (int at = 1; at <= count; at++) {
            names.append(", a").append(at);
        }
        return names.toString();
    }

    public static void main(String[] args) throws IOException {
        int wrong = 0;
        for (String[] breaker : BREAKERS) {
            List<String> found = broken("public final class CrashPlanner { " + breaker[1] + " }");
            if (found.stream().noneMatch(line -> line.startsWith("rule " + breaker[0] + ","))) {
                wrong++;
                System.out.println("rule " + breaker[0] + " does not see: " + breaker[1] + " " + found);
            }
        }
        for (String line : broken(Files.readString(PROGRAM))) {
            wrong++;
            System.out.println(line);
        }
        System.out.println(wrong == 0 ? "the program keeps to the rules" : wrong + " rules broken");
        if (wrong != 0) {
            System.exit(1);
        }
    }
}
