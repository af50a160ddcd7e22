import com.sun.source.tree.ArrayTypeTree;
import com.sun.source.tree.AssignmentTree;
import com.sun.source.tree.BinaryTree;
import com.sun.source.tree.BlockTree;
import com.sun.source.tree.ClassTree;
import com.sun.source.tree.CompilationUnitTree;
import com.sun.source.tree.ExpressionTree;
import com.sun.source.tree.IdentifierTree;
import com.sun.source.tree.MemberSelectTree;
import com.sun.source.tree.MethodInvocationTree;
import com.sun.source.tree.MethodTree;
import com.sun.source.tree.NewArrayTree;
import com.sun.source.tree.PrimitiveTypeTree;
import com.sun.source.tree.Tree;
import com.sun.source.tree.Tree.Kind;
import com.sun.source.tree.TypeCastTree;
import com.sun.source.tree.VariableTree;
import com.sun.source.util.JavacTask;
import com.sun.source.util.TreePath;
import com.sun.source.util.TreePathScanner;
import com.sun.source.util.Trees;
import java.nio.file.Path;
import java.util.ArrayList;
import java.util.EnumSet;
import java.util.List;
import java.util.Map;
import java.util.Set;
import java.util.TreeMap;
import java.util.TreeSet;
import javax.lang.model.element.Modifier;
import javax.lang.model.element.VariableElement;
import javax.lang.model.type.TypeKind;
import javax.tools.JavaCompiler;
import javax.tools.StandardJavaFileManager;
import javax.tools.ToolProvider;

/**
 * The rules of LANGUAGE.md, as far as they can be read off the source: 1 to 6, 10, and of 8 that
 * nothing calls itself. FaceTest has the rest of 1, and 11 follows from 3, since all that it rules
 * out comes from the library. Not tested here: that every loop ends (8) and that no index or divisor
 * goes wrong (7); for these there are the tests with wrong inputs.
 */
public final class RulesTest {
    private static final Path SOURCE = Path.of("src/main/java/RunsFinder.java");

    private static final Set<Kind> LOOPS = EnumSet.of(
            Kind.FOR_LOOP, Kind.ENHANCED_FOR_LOOP, Kind.WHILE_LOOP, Kind.DO_WHILE_LOOP);
    private static final Set<Kind> CONDITIONS = EnumSet.of(
            Kind.IF, Kind.SWITCH, Kind.SWITCH_EXPRESSION, Kind.CONDITIONAL_EXPRESSION);
    private static final Set<Kind> BAD_LITERALS = EnumSet.of(
            Kind.STRING_LITERAL, Kind.FLOAT_LITERAL, Kind.DOUBLE_LITERAL, Kind.NULL_LITERAL);
    private static final Set<Kind> BAD_CODE = EnumSet.of(
            Kind.THROW, Kind.TRY, Kind.CATCH, Kind.SYNCHRONIZED, Kind.ASSERT, Kind.INSTANCE_OF,
            Kind.LAMBDA_EXPRESSION, Kind.MEMBER_REFERENCE);

    private final CompilationUnitTree unit;
    private final Trees trees;
    private final List<TreePath> paths = new ArrayList<>();
    private final Map<String, MethodTree> methods = new TreeMap<>();
    private final Map<String, Set<String>> calls = new TreeMap<>();
    private final Set<String> fields = new TreeSet<>();
    private final Set<String> constants = new TreeSet<>();
    private final Set<String> variables = new TreeSet<>();
    private final Set<String> arrays = new TreeSet<>();

    private RulesTest(CompilationUnitTree unit, Trees trees) {
        this.unit = unit;
        this.trees = trees;
    }

    public static void main(String[] args) throws Exception {
        JavaCompiler compiler = ToolProvider.getSystemJavaCompiler();
        try (StandardJavaFileManager files = compiler.getStandardFileManager(null, null, null)) {
            JavacTask task = (JavacTask) compiler.getTask(
                    null, files, null, null, null, files.getJavaFileObjects(SOURCE));
            CompilationUnitTree unit = task.parse().iterator().next();
            task.analyze();
            RulesTest test = new RulesTest(unit, Trees.instance(task));
            test.gather();
            test.wholeFile();
            test.paths.forEach(test::onePlace);
            test.methods.keySet().forEach(test::depth);
        }
        Check.finish();
    }

    private void gather() {
        new TreePathScanner<Void, Void>() {
            @Override
            public Void scan(Tree tree, Void none) {
                if (tree != null) {
                    paths.add(getCurrentPath() == null ? new TreePath(unit)
                            : new TreePath(getCurrentPath(), tree));
                }
                return super.scan(tree, none);
            }
        }.scan(unit, null);
        for (TreePath path : paths) {
            if (path.getLeaf() instanceof MethodTree method) {
                String name = method.getName().toString();
                // An overload may be a private method with a public one's name; no rule needs one.
                hold(1, method, methods.put(name, method) == null, "a second method " + name);
                calls.put(name, new TreeSet<>());
            } else if (path.getLeaf() instanceof VariableTree variable) {
                gatherVariable(path, variable);
            }
        }
    }

    private void gatherVariable(TreePath path, VariableTree variable) {
        String name = variable.getName().toString();
        variables.add(name);
        if (variable.getType() instanceof ArrayTypeTree) {
            arrays.add(name);
        }
        if (!isField(path)) {
            return;
        }
        if (variable.getModifiers().getFlags().contains(Modifier.STATIC)) {
            constants.add(name);
        } else {
            fields.add(name);
        }
    }

    private void wholeFile() {
        hold(1, unit, unit.getPackage() == null, "a package line");
        hold(1, unit, unit.getTypeDecls().size() == 1, "not one class");
        hold(3, unit, unit.getImports().isEmpty(), "an import");
        hold(10, unit, fields.size() <= 40, "too many fields");
    }

    private void onePlace(TreePath path) {
        Tree tree = path.getLeaf();
        hold(2, tree, !BAD_LITERALS.contains(tree.getKind()), "" + tree);
        hold(4, tree, tree.getKind() != Kind.NEW_CLASS, "an object is made");
        hold(6, tree, !BAD_CODE.contains(tree.getKind()), "" + tree.getKind());
        if (tree instanceof ClassTree) {
            hold(1, tree, path.getParentPath().getLeaf() == unit, "a nested class");
        } else if (tree instanceof BlockTree block) {
            hold(5, tree, !block.isStatic(), "a static initialiser");
        } else if (tree instanceof MethodTree method) {
            method(method);
        } else if (tree instanceof VariableTree variable) {
            variable(path, variable);
        } else if (tree instanceof IdentifierTree || tree instanceof MemberSelectTree) {
            name(path);
        } else if (tree instanceof MethodInvocationTree call) {
            call(path, call);
        } else if (tree instanceof NewArrayTree made) {
            newArray(path, made);
        } else if (tree instanceof AssignmentTree assignment) {
            assignment(path, assignment);
        } else if (tree instanceof BinaryTree binary) {
            comparison(binary);
        } else if (tree instanceof TypeCastTree cast) {
            hold(6, tree, isNumberType(cast.getType()), "a cast to " + cast.getType());
        }
    }

    private void method(MethodTree method) {
        String name = method.getName().toString();
        Tree type = method.getReturnType();
        boolean isVoid = type == null
                || type instanceof PrimitiveTypeTree of && of.getPrimitiveTypeKind() == TypeKind.VOID;
        hold(4, method, isVoid || isNumberType(type), name + " answers " + type);
        hold(10, method, method.getParameters().size() <= 7, name + " takes too many");
        long lines = lineOf(trees.getSourcePositions().getEndPosition(unit, method)) - lineOf(start(method)) + 1;
        hold(10, method, lines <= 60, name + " has " + lines + " lines");
    }

    private void variable(TreePath path, VariableTree variable) {
        Tree type = variable.getType();
        Tree element = type instanceof ArrayTypeTree array ? array.getType() : type;
        hold(2, variable, isNumberType(element), type + " " + variable.getName());
        if (constants.contains(variable.getName().toString()) && isField(path)) {
            VariableElement constant = (VariableElement) trees.getElement(path);
            hold(5, variable, constant.getConstantValue() != null, variable.getName() + " is no constant");
            hold(5, variable, Set.of("int", "long").contains("" + type), "a static " + type);
        }
    }

    /** Only what the file itself declares may be named, and an array's length. */
    private void name(TreePath path) {
        Tree tree = path.getLeaf();
        if (tree instanceof MemberSelectTree member) {
            boolean isLength = arrays.contains("" + member.getExpression())
                    && member.getIdentifier().contentEquals("length");
            hold(3, tree, isLength || isOwn(tree), "" + tree);
            return;
        }
        String name = tree.toString();
        hold(3, tree, variables.contains(name) || methods.containsKey(name)
                || name.equals("this") || name.equals("super"), name);
    }

    private void call(TreePath path, MethodInvocationTree call) {
        String called = nameOf(call.getMethodSelect());
        // The compiler puts super() into the constructor.
        if (called.equals("super")) {
            return;
        }
        hold(3, call, methods.containsKey(called), called + " is not of this class");
        String caller = "<field>";
        for (Tree around : path.getParentPath()) {
            if (around instanceof MethodTree method) {
                caller = method.getName().toString();
            }
            hold(10, call, !(around instanceof MethodInvocationTree), called + " inside a call's arguments");
        }
        calls.computeIfAbsent(caller, none -> new TreeSet<>()).add(called);
    }

    private void newArray(TreePath path, NewArrayTree made) {
        hold(4, made, made.getInitializers() == null && made.getDimensions().size() == 1, "" + made);
        for (ExpressionTree length : made.getDimensions()) {
            hold(4, made, length.getKind() == Kind.INT_LITERAL && !length.toString().equals("0")
                    || constants.contains(length.toString()), "the length " + length);
        }
        for (Tree around : path.getParentPath()) {
            hold(4, made, !LOOPS.contains(around.getKind()) && !CONDITIONS.contains(around.getKind()),
                    "an array made in a loop or behind a condition");
            hold(4, made, !(around instanceof MethodTree method) || isConstructor(method),
                    "an array made in a method");
        }
    }

    private void assignment(TreePath path, AssignmentTree assignment) {
        String name = nameOf(assignment.getVariable());
        if (!arrays.contains(name)) {
            return;
        }
        for (Tree around : path.getParentPath()) {
            hold(4, assignment, !LOOPS.contains(around.getKind()), name + " changed in a loop");
            hold(4, assignment, !fields.contains(name) || !(around instanceof MethodTree method)
                    || isConstructor(method), "array field " + name + " assigned");
        }
    }

    private void comparison(BinaryTree binary) {
        hold(4, binary, !arrays.contains(nameOf(binary.getLeftOperand()))
                && !arrays.contains(nameOf(binary.getRightOperand())), "an array compared");
    }

    /** The method itself is the first of the six: after six steps down nothing may be left. */
    private void depth(String name) {
        Set<String> reached = Set.of(name);
        for (int depth = 1; depth <= 6; depth++) {
            Set<String> next = new TreeSet<>();
            for (String caller : reached) {
                next.addAll(calls.getOrDefault(caller, Set.of()));
            }
            hold(8, methods.get(name), !next.contains(name), name + " calls itself");
            reached = next;
        }
        hold(10, methods.get(name), reached.isEmpty(), name + " goes more than six calls deep");
    }

    private static boolean isField(TreePath path) {
        return path.getParentPath().getLeaf() instanceof ClassTree;
    }

    private static boolean isConstructor(MethodTree method) {
        return method.getReturnType() == null;
    }

    private static boolean isNumberType(Tree type) {
        return type instanceof PrimitiveTypeTree of && EnumSet.of(TypeKind.INT, TypeKind.LONG,
                TypeKind.SHORT, TypeKind.BYTE, TypeKind.CHAR, TypeKind.BOOLEAN).contains(of.getPrimitiveTypeKind());
    }

    private static boolean isOwn(Tree tree) {
        return tree instanceof MemberSelectTree member && member.getExpression().toString().equals("this");
    }

    private static String nameOf(Tree tree) {
        return isOwn(tree) ? ((MemberSelectTree) tree).getIdentifier().toString() : tree.toString();
    }

    private long start(Tree tree) {
        return trees.getSourcePositions().getStartPosition(unit, tree);
    }

    private long lineOf(long position) {
        return unit.getLineMap().getLineNumber(position);
    }

    private void hold(int rule, Tree where, boolean holds, String what) {
        if (!holds) {
            Check.fault("rule " + rule + ", line " + lineOf(start(where)) + ": " + what);
        }
    }
}
