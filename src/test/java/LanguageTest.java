import com.sun.source.tree.*;
import com.sun.source.util.JavacTask;
import com.sun.source.util.SourcePositions;
import com.sun.source.util.TreeScanner;
import com.sun.source.util.Trees;
import java.io.File;
import java.util.ArrayDeque;
import java.util.Deque;
import java.util.HashMap;
import java.util.HashSet;
import java.util.List;
import java.util.Map;
import java.util.Set;
import java.util.TreeSet;
import javax.lang.model.element.Modifier;
import javax.tools.JavaCompiler;
import javax.tools.StandardJavaFileManager;
import javax.tools.ToolProvider;

/**
 * The rules of LANGUAGE.md that can be seen in the program's source; FaceTest has those that reflection sees.
 * It is stricter than they are where the program uses less than they allow: it has for loops alone, no division,
 * no member of anything named by a dot, constants that are plain numbers, and arrays whose lengths are such constants.
 */
public final class LanguageTest {
    private static final String SOURCE = "src/main/java/Metronome.java";
    private static final Set<String> TYPES = Set.of("int", "long", "short", "byte", "char", "boolean", "void");
    private static final Set<Tree.Kind> RULED_OUT = Set.of(
            Tree.Kind.THROW, Tree.Kind.TRY, Tree.Kind.CATCH, Tree.Kind.SYNCHRONIZED, Tree.Kind.ASSERT,
            Tree.Kind.INSTANCE_OF, Tree.Kind.LAMBDA_EXPRESSION, Tree.Kind.MEMBER_REFERENCE, Tree.Kind.NEW_CLASS,
            Tree.Kind.STRING_LITERAL, Tree.Kind.NULL_LITERAL, Tree.Kind.FLOAT_LITERAL, Tree.Kind.DOUBLE_LITERAL,
            Tree.Kind.ANNOTATION, Tree.Kind.DIVIDE, Tree.Kind.REMAINDER, Tree.Kind.DIVIDE_ASSIGNMENT,
            Tree.Kind.REMAINDER_ASSIGNMENT, Tree.Kind.WHILE_LOOP, Tree.Kind.DO_WHILE_LOOP,
            Tree.Kind.ENHANCED_FOR_LOOP, Tree.Kind.MEMBER_SELECT);

    private static final Map<String, Set<String>> calls = new HashMap<>();
    private static final Map<String, Integer> constants = new HashMap<>();

    public static void main(String[] args) throws Exception {
        Check.says("LANGUAGE.md");
        JavaCompiler compiler = ToolProvider.getSystemJavaCompiler();
        StandardJavaFileManager files = compiler.getStandardFileManager(null, null, null);
        JavacTask task = (JavacTask) compiler.getTask(
                null, files, null, null, null, files.getJavaFileObjects(new File(SOURCE)));
        CompilationUnitTree unit = task.parse().iterator().next();
        Check.due("rule 1: package lines", unit.getPackageName() == null ? 0 : 1, 0);
        Check.due("rule 3: imports", unit.getImports().size(), 0);
        Check.due("rule 1: classes in the file", unit.getTypeDecls().size(), 1);
        ClassTree program = (ClassTree) unit.getTypeDecls().get(0);
        membersKeepTheRules(program, unit, Trees.instance(task).getSourcePositions());
        new Rules().scan(program, null);
        for (String method : calls.keySet()) {
            Check.due("rule 8: " + method + " reaches itself", reached(method).contains(method), false);
        }
        for (String method : calls.keySet()) {
            Check.due("rule 10: calls from " + method + " go too deep", depth(method, 7) > 6, false);
        }
        Check.end();
    }

    private static void membersKeepTheRules(ClassTree program, CompilationUnitTree unit, SourcePositions positions) {
        LineMap lines = unit.getLineMap();
        int fields = 0;
        for (Tree member : program.getMembers()) {
            switch (member.getKind()) {
                case VARIABLE -> {
                    VariableTree field = (VariableTree) member;
                    if (field.getModifiers().getFlags().contains(Modifier.STATIC)) {
                        constantIsANumber(field);
                    } else {
                        fields++;
                    }
                }
                case METHOD -> {
                    String name = ((MethodTree) member).getName().toString();
                    long first = lines.getLineNumber(positions.getStartPosition(unit, member));
                    long last = lines.getLineNumber(positions.getEndPosition(unit, member));
                    Check.due("rule 10: " + name + " is too long", last - first >= 60, false);
                    calls.put(name, new TreeSet<>());
                }
                default -> Check.due("rules 1 and 5: member " + member.getKind(), true, false);
            }
        }
        Check.due("rule 10: more than 40 fields", fields > 40, false);
    }

    private static void constantIsANumber(VariableTree field) {
        String number = String.valueOf(field.getInitializer());
        boolean plain = number.matches("-?[0-9]{1,9}");
        Check.due("rule 5: " + field + " is a number as it stands", plain, true);
        if (plain) {
            constants.put(field.getName().toString(), Integer.parseInt(number));
        }
    }

    private static Set<String> reached(String method) {
        Set<String> seen = new HashSet<>();
        Deque<String> ahead = new ArrayDeque<>(calls.get(method));
        while (!ahead.isEmpty()) {
            String next = ahead.pop();
            if (seen.add(next)) {
                ahead.addAll(calls.getOrDefault(next, Set.of()));
            }
        }
        return seen;
    }

    /** How many methods deep the calls from this one go, itself counted; cut off at most. */
    private static int depth(String method, int most) {
        int deepest = 0;
        if (most > 1) {
            for (String next : calls.getOrDefault(method, Set.of())) {
                deepest = Math.max(deepest, depth(next, most - 1));
            }
        }
        return deepest + 1;
    }

    private static final class Rules extends TreeScanner<Void, Void> {
        private String method = null;
        private boolean inArguments = false;

        @Override
        public Void scan(Tree tree, Void unused) {
            if (tree != null) {
                Check.due("not in our part of the language: " + tree, RULED_OUT.contains(tree.getKind()), false);
            }
            return super.scan(tree, unused);
        }

        @Override
        public Void visitMethod(MethodTree tree, Void unused) {
            method = tree.getName().toString();
            boolean constructor = tree.getReturnType() == null;
            Check.due("rule 2: " + method + " answers an array or an object",
                    constructor || TYPES.contains(tree.getReturnType().toString()), true);
            super.visitMethod(tree, unused);
            method = null;
            return null;
        }

        @Override
        public Void visitVariable(VariableTree tree, Void unused) {
            String type = String.valueOf(tree.getType());
            String plain = type.endsWith("[]") ? type.substring(0, type.length() - 2) : type;
            Check.due("rule 2: type of " + tree, TYPES.contains(plain), true);
            return super.visitVariable(tree, unused);
        }

        @Override
        public Void visitTypeCast(TypeCastTree tree, Void unused) {
            Check.due("rule 6: cast to " + tree.getType(), TYPES.contains(tree.getType().toString()), true);
            return super.visitTypeCast(tree, unused);
        }

        @Override
        public Void visitNewArray(NewArrayTree tree, Void unused) {
            Check.due("rule 4: " + tree + " outside a field's initialiser", method == null, true);
            Check.due("rule 4: dimensions of " + tree, tree.getDimensions().size(), 1);
            Check.due("rule 4: listed elements in " + tree, tree.getInitializers() == null, true);
            for (ExpressionTree length : tree.getDimensions()) {
                int places = constants.getOrDefault(length.toString(), 0);
                Check.due("rule 4: the length of " + tree + " is a constant, 1 or more", places >= 1, true);
            }
            return super.visitNewArray(tree, unused);
        }

        @Override
        public Void visitMethodInvocation(MethodInvocationTree tree, Void unused) {
            Check.due("rule 10: " + tree + " inside the arguments of a call", inArguments, false);
            String name = tree.getMethodSelect().toString();
            // The constructor's super() is the compiler's, not the program's.
            if (!name.equals("super")) {
                Check.due("rule 3: " + name + " is of this class", calls.containsKey(name), true);
                if (method != null) {
                    calls.get(method).add(name);
                }
            }
            boolean before = inArguments;
            inArguments = true;
            scan(tree.getArguments(), unused);
            inArguments = before;
            return null;
        }

        @Override
        public Void visitForLoop(ForLoopTree tree, Void unused) {
            List<? extends StatementTree> start = tree.getInitializer();
            boolean counts = start.size() == 1 && start.get(0) instanceof VariableTree && tree.getUpdate().size() == 1;
            Check.due("rule 8: one counter in " + tree, counts, true);
            if (counts) {
                String counter = ((VariableTree) start.get(0)).getName().toString();
                String condition = String.valueOf(tree.getCondition());
                Check.due("rule 8: " + condition + " bounds " + counter, condition.startsWith(counter + " < "), true);
                String step = tree.getUpdate().get(0).getExpression().toString();
                Check.due("rule 8: " + step + " counts " + counter, step.equals(counter + "++"), true);
                Check.due("rule 8: " + tree + " sets its counter", sets(tree.getStatement(), counter), false);
            }
            return super.visitForLoop(tree, unused);
        }

        private static boolean sets(Tree body, String variable) {
            boolean[] found = {false};
            new TreeScanner<Void, Void>() {
                @Override
                public Void visitAssignment(AssignmentTree tree, Void unused) {
                    found[0] |= tree.getVariable().toString().equals(variable);
                    return super.visitAssignment(tree, unused);
                }

                @Override
                public Void visitCompoundAssignment(CompoundAssignmentTree tree, Void unused) {
                    found[0] |= tree.getVariable().toString().equals(variable);
                    return super.visitCompoundAssignment(tree, unused);
                }

                @Override
                public Void visitUnary(UnaryTree tree, Void unused) {
                    boolean writes = tree.toString().contains("++") || tree.toString().contains("--");
                    found[0] |= writes && tree.getExpression().toString().equals(variable);
                    return super.visitUnary(tree, unused);
                }
            }.scan(body, null);
            return found[0];
        }
    }
}
