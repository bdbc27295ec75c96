import com.sun.source.tree.ArrayAccessTree;
import com.sun.source.tree.BinaryTree;
import com.sun.source.tree.ClassTree;
import com.sun.source.tree.CompoundAssignmentTree;
import com.sun.source.tree.ExpressionStatementTree;
import com.sun.source.tree.ExpressionTree;
import com.sun.source.tree.ForLoopTree;
import com.sun.source.tree.IdentifierTree;
import com.sun.source.tree.LiteralTree;
import com.sun.source.tree.MethodInvocationTree;
import com.sun.source.tree.MethodTree;
import com.sun.source.tree.NewArrayTree;
import com.sun.source.tree.NewClassTree;
import com.sun.source.tree.ParenthesizedTree;
import com.sun.source.tree.Tree;
import com.sun.source.tree.TypeCastTree;
import com.sun.source.tree.UnaryTree;
import com.sun.source.tree.VariableTree;
import com.sun.source.util.TreePath;
import com.sun.source.util.TreePathScanner;
import java.io.IOException;
import java.nio.file.Files;
import java.util.ArrayList;
import java.util.HashSet;
import java.util.List;
import java.util.Map;
import java.util.Set;
import java.util.TreeMap;
import java.util.TreeSet;
import javax.lang.model.element.Element;
import javax.lang.model.element.Modifier;

/**
 * The rules of ../shared/LANGUAGE.md, looked up in the tree that javac makes of src/main/java/PinDuties.java.
 * Where the class needs less than a rule allows, the test allows what the class needs. What can't be seen in a
 * tree (rule 7: no call throws, whatever it is called with) is NoThrowTest's; the face (rule 1) is FaceTest's, too.
 */
public final class LanguageTest extends TreePathScanner<Void, Void> {
    // Rules 2, 3, 6, 8, 10: nothing else is written in the class.
    private static final Set<String> KINDS = Set.of("COMPILATION_UNIT", "CLASS", "METHOD", "VARIABLE", "MODIFIERS",
        "PRIMITIVE_TYPE", "ARRAY_TYPE", "IDENTIFIER", "MEMBER_SELECT", "METHOD_INVOCATION", "ARRAY_ACCESS",
        "NEW_CLASS", "NEW_ARRAY", "INT_LITERAL", "LONG_LITERAL", "BOOLEAN_LITERAL", "NULL_LITERAL", "PARENTHESIZED",
        "TYPE_CAST", "BLOCK", "EXPRESSION_STATEMENT", "IF", "FOR_LOOP", "SWITCH", "CASE", "BREAK", "RETURN",
        "ASSIGNMENT", "PLUS_ASSIGNMENT", "MULTIPLY_ASSIGNMENT", "AND_ASSIGNMENT", "OR_ASSIGNMENT",
        "POSTFIX_INCREMENT", "POSTFIX_DECREMENT", "UNARY_MINUS", "LOGICAL_COMPLEMENT", "BITWISE_COMPLEMENT", "PLUS",
        "MINUS", "MULTIPLY", "DIVIDE", "REMAINDER", "AND", "OR", "LEFT_SHIFT", "RIGHT_SHIFT", "EQUAL_TO",
        "NOT_EQUAL_TO", "LESS_THAN", "LESS_THAN_EQUAL", "GREATER_THAN", "GREATER_THAN_EQUAL", "CONDITIONAL_AND",
        "CONDITIONAL_OR", "CONDITIONAL_EXPRESSION");
    // Rule 4; the last is what javac puts ahead in a constructor.
    private static final Set<String> LIBRARY = Set.of("java.lang.Math.abs", "java.lang.Math.max", "java.lang.Math.min",
        "java.lang.Integer.bitCount", "java.lang.System.arraycopy", "java.lang.Object.<init>");
    private static final Set<String> NUMBERS = Set.of("int", "long", "byte", "boolean");
    private static final int PARAMETERS = 7, LINES = 60, DEEP = 8, CLASSES = 12, FIELDS = 20;

    private final Source source;
    // Of each method of the class, told as Class.name: those of the class that it calls.
    private final Map<String, Set<String>> calls = new TreeMap<>();
    private final Set<String> privateStatic = new TreeSet<>();
    private final Set<String> open = new TreeSet<>();
    private final List<String> others = new ArrayList<>();
    private final Set<String> fixed = new HashSet<>();
    private int classes = 0;

    private LanguageTest(Source source) {
        this.source = source;
    }

    public static void main(String[] args) throws IOException {
        for (String line : Files.readAllLines(Source.PATH)) {
            Check.due("signs of the source: " + line, line.chars().filter(c -> c > 126 || c < 32).count(), 0);
        }
        LanguageTest test = new LanguageTest(Source.read());
        Check.due("a package line (0: none)", test.source.unit.getPackage() == null ? 0 : 1, 0);
        Check.due("imports", test.source.unit.getImports().size(), 0);
        Check.due("classes beside the public one", test.source.unit.getTypeDecls().size(), 1);
        test.scan(test.source.unit, null);
        test.names();
        test.depths();
        Check.due("classes, at most twelve: " + test.classes, test.classes <= CLASSES ? 1 : 0, 1);
        Check.end();
    }

    private void holds(String what, Tree tree, boolean so) {
        Check.due(source.lineOf(tree) + ": " + what + " (1: so)", so ? 1 : 0, 1);
    }

    @Override
    public Void scan(Tree tree, Void nothing) {
        if (tree != null && source.isWritten(tree)) {
            holds(tree.getKind() + " is allowed", tree, KINDS.contains(tree.getKind().toString()));
        }
        return super.scan(tree, nothing);
    }

    // ---- rules 1, 2, 11: classes

    @Override
    public Void visitClass(ClassTree tree, Void nothing) {
        classes++;
        Set<Modifier> flags = tree.getModifiers().getFlags();
        Tree around = getCurrentPath().getParentPath().getLeaf();
        if (around.getKind() == Tree.Kind.COMPILATION_UNIT) {
            holds("public and final", tree, flags.equals(Set.of(Modifier.PUBLIC, Modifier.FINAL)));
        } else {
            holds("stands in a class", tree, around.getKind() == Tree.Kind.CLASS);
            holds("static and private", tree, flags.containsAll(Set.of(Modifier.STATIC, Modifier.PRIVATE)));
        }
        int fields = 0;
        for (Tree member : tree.getMembers()) {
            holds("no initialiser block", member, member.getKind() != Tree.Kind.BLOCK);
            if (member instanceof VariableTree field && !isStatic(field)) {
                fields++;
            }
        }
        holds("at most twenty fields: " + fields, tree, fields <= FIELDS);
        return super.visitClass(tree, nothing);
    }

    private static boolean isStatic(VariableTree field) {
        return field.getModifiers().getFlags().contains(Modifier.STATIC);
    }

    // ---- rules 3, 5: types, constants

    @Override
    public Void visitVariable(VariableTree tree, Void nothing) {
        String type = tree.getType().toString();
        holds("type " + type, tree, isAllowed(type));
        boolean field = getCurrentPath().getParentPath().getLeaf().getKind() == Tree.Kind.CLASS;
        if (field && isStatic(tree)) {
            holds("a constant", tree, tree.getModifiers().getFlags().contains(Modifier.FINAL));
            boolean array = tree.getInitializer() instanceof NewArrayTree made && made.getInitializers() != null;
            holds("a constant of numbers, or an array written out", tree, NUMBERS.contains(type) || array);
            if (array) {
                fixed.add(tree.getName().toString());
            }
        }
        return super.visitVariable(tree, nothing);
    }

    private static boolean isAllowed(String type) {
        String of = type.replaceFirst("\\[\\]$", "");
        return NUMBERS.contains(of) || Set.of("Cells", "Deeds", "Pins", "Street").contains(of);
    }

    // An array that is a constant is read alone: place by place, and by its length.
    @Override
    public Void visitIdentifier(IdentifierTree tree, Void nothing) {
        if (fixed.contains(tree.getName().toString())) {
            TreePath around = getCurrentPath().getParentPath();
            Tree above = around.getParentPath().getLeaf();
            boolean place = around.getLeaf() instanceof ArrayAccessTree access && access.getExpression() == tree;
            boolean changed = above.getKind().toString().matches(".*(ASSIGNMENT|CREMENT)");
            boolean length = around.getLeaf().toString().endsWith(".length");
            holds(tree + " is read alone", tree, length || place && (!changed || isRight(above, around.getLeaf())));
        }
        return super.visitIdentifier(tree, nothing);
    }

    private static boolean isRight(Tree above, Tree part) {
        return above instanceof CompoundAssignmentTree by ? by.getExpression() == part : !(above instanceof UnaryTree)
            && above.toString().endsWith(part.toString());
    }

    // ---- rules 1, 11: methods

    @Override
    public Void visitMethod(MethodTree tree, Void nothing) {
        if (!source.isWritten(tree)) {
            return null;
        }
        String name = tree.getName().toString();
        boolean opened = tree.getModifiers().getFlags().contains(Modifier.PUBLIC);
        if (opened) {
            open.add(name);
        } else {
            others.add(name);
        }
        String type = String.valueOf(tree.getReturnType());
        holds(name + " returns " + type, tree, Set.of("null", "void").contains(type) || isAllowed(type));
        holds(name + " has at most seven parameters", tree, tree.getParameters().size() <= PARAMETERS);
        holds(name + " has at most sixty lines", tree, source.linesOf(tree) <= LINES);
        holds(name + " tells of no exceptions", tree, tree.getThrows().isEmpty());
        calls.put(source.nameOf(getCurrentPath()), new TreeSet<>());
        if (tree.getModifiers().getFlags().containsAll(Set.of(Modifier.PRIVATE, Modifier.STATIC))) {
            privateStatic.add(source.nameOf(getCurrentPath()));
        }
        return super.visitMethod(tree, nothing);
    }

    private void names() {
        Check.due("names of public methods, and of the constructor", open.size(), 42);
        for (String name : others) {
            boolean constructor = name.equals("<init>");
            Check.due(name + " is the name of a public method", !constructor && open.contains(name) ? 1 : 0, 0);
        }
    }

    // ---- rules 4, 8, 11, 13: calls

    @Override
    public Void visitMethodInvocation(MethodInvocationTree tree, Void nothing) {
        Element called = source.elementOf(getCurrentPath());
        String name = source.nameOf(called);
        if (source.isOwn(called)) {
            calls.get(source.nameOf(source.methodAround(getCurrentPath()))).add(name);
        } else {
            holds(name + " is of the library that may be used", tree, LIBRARY.contains(name));
        }
        return super.visitMethodInvocation(tree, nothing);
    }

    /** What calls itself is the one method whose depth its turns bound; no others call one another in a ring. */
    private void depths() {
        int most = 0;
        for (Map.Entry<String, Set<String>> e : calls.entrySet()) {
            boolean itself = e.getValue().remove(e.getKey());
            boolean may = e.getKey().equals("PinDuties.gainByTurns") && privateStatic.contains(e.getKey());
            Check.due(e.getKey() + " calls itself (1: it does)", itself ? 1 : 0, may ? 1 : 0);
        }
        for (String name : calls.keySet()) {
            most = Math.max(most, depthOf(name, 0));
        }
        Check.due("calls go at most eight deep: " + most, most > 1 && most <= DEEP ? 1 : 0, 1);
    }

    private int depthOf(String name, int above) {
        if (above > 100) {
            return above;
        }
        int most = 0;
        for (String called : calls.get(name)) {
            most = Math.max(most, depthOf(called, above + 1));
        }
        return most + 1;
    }

    // ---- rule 12: what is made

    @Override
    public Void visitNewClass(NewClassTree tree, Void nothing) {
        holds("no class of its own", tree, tree.getClassBody() == null);
        MethodTree method = source.methodTreeAround(getCurrentPath());
        holds("made by a field or a constructor", tree, method == null || method.getReturnType() == null);
        return super.visitNewClass(tree, nothing);
    }

    @Override
    public Void visitNewArray(NewArrayTree tree, Void nothing) {
        holds("made by a field", tree, source.methodTreeAround(getCurrentPath()) == null);
        holds("one dimension", tree, tree.getDimensions().size() <= 1);
        return super.visitNewArray(tree, nothing);
    }

    // ---- rule 6: casts are of numbers alone

    @Override
    public Void visitTypeCast(TypeCastTree tree, Void nothing) {
        holds("a cast of a number", tree, NUMBERS.contains(tree.getType().toString()));
        return super.visitTypeCast(tree, nothing);
    }

    // ---- rule 7: what divides is looked at before, unless it is a constant

    @Override
    public Void visitBinary(BinaryTree tree, Void nothing) {
        if (tree.getKind() == Tree.Kind.DIVIDE || tree.getKind() == Tree.Kind.REMAINDER) {
            Tree by = tree.getRightOperand();
            String looked = "(?s).*\\b" + by.toString().replace(".", "\\.") + " (==|!=|>) 0\\b.*";
            boolean tested = source.methodTreeAround(getCurrentPath()).toString().matches(looked);
            holds("what divides was looked at: " + tree, tree, source.isConstantButNought(by, getCurrentPath()) || tested);
        }
        return super.visitBinary(tree, nothing);
    }

    // ---- rule 9: each loop counts up to a bound, and nothing in it sets its counter

    @Override
    public Void visitForLoop(ForLoopTree tree, Void nothing) {
        boolean one = tree.getInitializer().size() == 1 && tree.getInitializer().get(0) instanceof VariableTree;
        holds("one counter", tree, one && tree.getUpdate().size() == 1);
        if (one && tree.getUpdate().size() == 1) {
            String counter = ((VariableTree) tree.getInitializer().get(0)).getName().toString();
            holds(counter + " is held against a bound", tree, isBound(tree.getCondition(), counter));
            holds(counter + " goes up", tree, goesUp(tree.getUpdate().get(0), counter));
            String sets = "(?s).*\\b" + counter + "( [-+*/%&|^]?= |\\+\\+|--).*";
            holds(counter + " is not set", tree, !tree.getStatement().toString().matches(sets));
        }
        return super.visitForLoop(tree, nothing);
    }

    private static boolean isBound(ExpressionTree condition, String counter) {
        if (condition instanceof ParenthesizedTree inner) {
            return isBound(inner.getExpression(), counter);
        }
        if (!(condition instanceof BinaryTree both)) {
            return false;
        }
        if (both.getKind() == Tree.Kind.CONDITIONAL_AND) {
            return isBound(both.getLeftOperand(), counter) || isBound(both.getRightOperand(), counter);
        }
        boolean less = both.getKind() == Tree.Kind.LESS_THAN || both.getKind() == Tree.Kind.LESS_THAN_EQUAL;
        return less && both.getLeftOperand().toString().equals(counter);
    }

    private static boolean goesUp(ExpressionStatementTree update, String counter) {
        ExpressionTree how = update.getExpression();
        if (how instanceof CompoundAssignmentTree by) {
            boolean more = by.getExpression() instanceof LiteralTree n && n.getValue() instanceof Integer v && v > 0;
            return by.getKind() == Tree.Kind.PLUS_ASSIGNMENT && by.getVariable().toString().equals(counter) && more;
        }
        return how.getKind() == Tree.Kind.POSTFIX_INCREMENT
            && ((UnaryTree) how).getExpression().toString().equals(counter);
    }
}
