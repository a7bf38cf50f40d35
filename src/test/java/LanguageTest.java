import com.sun.source.tree.ArrayTypeTree;
import com.sun.source.tree.ClassTree;
import com.sun.source.tree.CompilationUnitTree;
import com.sun.source.tree.ExpressionTree;
import com.sun.source.tree.ForLoopTree;
import com.sun.source.tree.IdentifierTree;
import com.sun.source.tree.LiteralTree;
import com.sun.source.tree.MethodInvocationTree;
import com.sun.source.tree.MethodTree;
import com.sun.source.tree.NewArrayTree;
import com.sun.source.tree.Tree;
import com.sun.source.tree.TypeCastTree;
import com.sun.source.tree.VariableTree;
import com.sun.source.util.JavacTask;
import com.sun.source.util.SourcePositions;
import com.sun.source.util.TreePath;
import com.sun.source.util.TreePathScanner;
import com.sun.source.util.Trees;
import java.io.IOException;
import java.nio.file.Path;
import java.util.List;
import java.util.Map;
import java.util.Set;
import java.util.TreeMap;
import java.util.TreeSet;
import javax.lang.model.element.Modifier;
import javax.tools.JavaCompiler;
import javax.tools.StandardJavaFileManager;
import javax.tools.ToolProvider;

// What of LANGUAGE.md the source shows. It is stricter than the rules where that is simpler: the
// class needs neither while nor do. That no call ever throws (rule 7) is left to the other tests.
public final class LanguageTest {
    private static final String SOURCE = "src/main/java/IncrementalScc.java";
    private static final int MOST_LINES = 60;
    private static final int MOST_FIELDS = 40;
    private static final int MOST_DEPTH = 6;
    private static final Set<Tree.Kind> FORBIDDEN = Set.of(
        Tree.Kind.INTERFACE, Tree.Kind.ENUM, Tree.Kind.RECORD, Tree.Kind.ANNOTATION_TYPE, Tree.Kind.NEW_CLASS,
        Tree.Kind.THROW, Tree.Kind.TRY, Tree.Kind.CATCH, Tree.Kind.SYNCHRONIZED, Tree.Kind.ASSERT,
        Tree.Kind.INSTANCE_OF, Tree.Kind.LAMBDA_EXPRESSION, Tree.Kind.MEMBER_REFERENCE, Tree.Kind.MEMBER_SELECT,
        Tree.Kind.IMPORT, Tree.Kind.PACKAGE, Tree.Kind.PARAMETERIZED_TYPE, Tree.Kind.ENHANCED_FOR_LOOP,
        Tree.Kind.WHILE_LOOP, Tree.Kind.DO_WHILE_LOOP, Tree.Kind.NULL_LITERAL, Tree.Kind.STRING_LITERAL,
        Tree.Kind.FLOAT_LITERAL, Tree.Kind.DOUBLE_LITERAL);

    private static int wrong = 0;

    public static void main(String[] args) throws IOException {
        JavaCompiler compiler = ToolProvider.getSystemJavaCompiler();
        try (StandardJavaFileManager files = compiler.getStandardFileManager(null, null, null)) {
            JavacTask task = (JavacTask) compiler.getTask(
                null, files, null, null, null, files.getJavaFileObjects(Path.of(SOURCE)));
            CompilationUnitTree unit = task.parse().iterator().next();
            Reader reader = new Reader(unit, Trees.instance(task).getSourcePositions());
            reader.scan(unit, null);
            reader.lookAtWhole();
        }
        System.out.println(wrong == 0 ? "the source keeps to the rules" : wrong + " things are not as due");
        if (wrong != 0) {
            System.exit(1);
        }
    }

    private static void due(String what, boolean holds) {
        if (!holds) {
            wrong++;
            System.out.println("not so: " + what);
        }
    }

    private static final class Reader extends TreePathScanner<Void, Void> {
        private final CompilationUnitTree unit;
        private final SourcePositions positions;
        private final Map<String, Set<String>> callsOf = new TreeMap<>();
        private final Set<String> constants = new TreeSet<>();
        private int classes = 0;
        private int fields = 0;
        private String method = "";

        Reader(CompilationUnitTree unit, SourcePositions positions) {
            this.unit = unit;
            this.positions = positions;
        }

        private long line(long position) {
            return unit.getLineMap().getLineNumber(position);
        }

        private String at(Tree tree) {
            return "line " + line(positions.getStartPosition(unit, tree)) + ": ";
        }

        @Override
        public Void scan(Tree tree, Void none) {
            if (tree != null) {
                due(at(tree) + tree.getKind() + " is within the rules", !FORBIDDEN.contains(tree.getKind()));
            }
            return super.scan(tree, none);
        }

        @Override
        public Void visitClass(ClassTree tree, Void none) {
            classes++;
            for (Tree member : tree.getMembers()) {
                due(at(member) + "rule 5: no initialiser block", member.getKind() != Tree.Kind.BLOCK);
                if (member instanceof VariableTree field) {
                    lookAtField(field);
                }
                if (member instanceof MethodTree declared) {
                    String name = declared.getName().toString();
                    due(at(member) + "each method's name is its own", callsOf.put(name, new TreeSet<>()) == null);
                }
            }
            return super.visitClass(tree, none);
        }

        private void lookAtField(VariableTree field) {
            Set<Modifier> modifiers = field.getModifiers().getFlags();
            if (modifiers.contains(Modifier.STATIC)) {
                due(at(field) + "rule 5: a static field is a constant of a literal",
                    modifiers.contains(Modifier.FINAL) && isNumber(field.getInitializer()));
                constants.add(field.getName().toString());
            } else {
                fields++;
                boolean array = field.getType() instanceof ArrayTypeTree;
                due(at(field) + "rule 4: an array field is final and made where it stands",
                    !array || (modifiers.contains(Modifier.FINAL) && field.getInitializer() instanceof NewArrayTree));
            }
        }

        private static boolean isNumber(Tree tree) {
            return tree instanceof LiteralTree
                || tree != null && tree.getKind() == Tree.Kind.UNARY_MINUS;
        }

        @Override
        public Void visitVariable(VariableTree tree, Void none) {
            Tree type = tree.getType();
            Tree element = type instanceof ArrayTypeTree array ? array.getType() : type;
            due(at(tree) + "rule 2: " + type + " is a number, a boolean or one row of these",
                element != null && element.getKind() == Tree.Kind.PRIMITIVE_TYPE);
            return super.visitVariable(tree, none);
        }

        @Override
        public Void visitNewArray(NewArrayTree tree, Void none) {
            TreePath holder = getCurrentPath().getParentPath();
            due(at(tree) + "rule 4: arrays are made in the fields' initialisers",
                holder.getLeaf() instanceof VariableTree && holder.getParentPath().getLeaf() instanceof ClassTree);
            List<? extends ExpressionTree> lengths = tree.getDimensions();
            due(at(tree) + "rule 4: the length is a literal or a constant",
                lengths.size() == 1 && tree.getInitializers() == null && isLength(lengths.get(0)));
            return super.visitNewArray(tree, none);
        }

        private boolean isLength(ExpressionTree length) {
            return length instanceof LiteralTree
                || length instanceof IdentifierTree name && constants.contains(name.getName().toString());
        }

        @Override
        public Void visitMethod(MethodTree tree, Void none) {
            method = tree.getName().toString();
            long first = line(positions.getStartPosition(unit, tree));
            long last = line(positions.getEndPosition(unit, tree));
            due(at(tree) + "rule 10: " + method + " is short", last - first < MOST_LINES);
            due(at(tree) + "rule 6: " + method + " tells of no exception", tree.getThrows().isEmpty());
            super.visitMethod(tree, none);
            method = "";
            return null;
        }

        @Override
        public Void visitMethodInvocation(MethodInvocationTree tree, Void none) {
            String called = tree.getMethodSelect().toString();
            // The call of Object's constructor is written by the compiler, not in the source.
            if (!called.equals("super")) {
                due(at(tree) + "rule 3: " + called + " is a method of the class", callsOf.containsKey(called));
                due(at(tree) + "a call stands in a method", callsOf.containsKey(method));
                callsOf.getOrDefault(method, new TreeSet<>()).add(called);
            }
            due(at(tree) + "rule 10: no call stands inside the arguments of another", !isInsideArguments());
            return super.visitMethodInvocation(tree, none);
        }

        private boolean isInsideArguments() {
            for (TreePath path = getCurrentPath().getParentPath(); path != null; path = path.getParentPath()) {
                if (path.getLeaf() instanceof MethodInvocationTree) {
                    return true;
                }
            }
            return false;
        }

        @Override
        public Void visitTypeCast(TypeCastTree tree, Void none) {
            due(at(tree) + "rule 6: a cast is to a number", tree.getType().getKind() == Tree.Kind.PRIMITIVE_TYPE);
            return super.visitTypeCast(tree, none);
        }

        @Override
        public Void visitForLoop(ForLoopTree tree, Void none) {
            boolean counts = tree.getInitializer().size() == 1 && tree.getUpdate().size() == 1;
            due(at(tree) + "rule 8: a loop counts against a bound", counts && tree.getCondition() != null);
            return super.visitForLoop(tree, none);
        }

        void lookAtWhole() {
            due("rule 1: one class", classes == 1);
            due("rule 10: at most some " + MOST_FIELDS + " fields", fields <= MOST_FIELDS);
            for (String name : callsOf.keySet()) {
                int depth = depthOf(name, MOST_DEPTH + 1);
                due("rules 8 and 10: calls from " + name + " go at most " + MOST_DEPTH + " deep", depth <= MOST_DEPTH);
            }
        }

        // A method that comes back to itself is as deep as is asked for, so this finds recursion too.
        private int depthOf(String name, int most) {
            int deepest = 0;
            for (String called : callsOf.getOrDefault(name, Set.of())) {
                if (most > 1) {
                    deepest = Math.max(deepest, depthOf(called, most - 1));
                }
            }
            return deepest + 1;
        }
    }
}
