import com.sun.source.tree.AnnotationTree;
import com.sun.source.tree.ArrayTypeTree;
import com.sun.source.tree.AssignmentTree;
import com.sun.source.tree.BinaryTree;
import com.sun.source.tree.BlockTree;
import com.sun.source.tree.ClassTree;
import com.sun.source.tree.CompilationUnitTree;
import com.sun.source.tree.ExpressionTree;
import com.sun.source.tree.ForLoopTree;
import com.sun.source.tree.IdentifierTree;
import com.sun.source.tree.LiteralTree;
import com.sun.source.tree.MemberSelectTree;
import com.sun.source.tree.MethodInvocationTree;
import com.sun.source.tree.MethodTree;
import com.sun.source.tree.NewArrayTree;
import com.sun.source.tree.PrimitiveTypeTree;
import com.sun.source.tree.Tree;
import com.sun.source.tree.TypeCastTree;
import com.sun.source.tree.VariableTree;
import com.sun.source.util.JavacTask;
import com.sun.source.util.SourcePositions;
import com.sun.source.util.TreeScanner;
import com.sun.source.util.Trees;
import java.io.IOException;
import java.nio.file.Path;
import java.util.HashSet;
import java.util.Map;
import java.util.Set;
import java.util.TreeMap;
import java.util.TreeSet;
import javax.lang.model.element.Modifier;
import javax.lang.model.type.TypeKind;
import javax.tools.JavaCompiler;
import javax.tools.StandardJavaFileManager;
import javax.tools.ToolProvider;

/**
 * The rules of LANGUAGE.md, as far as the source itself shows them. Where a rule leaves several ways,
 * this asks for the plainest one: arrays are made in the initialisers of final fields, no local
 * variable names an array, and every loop is a for with a comparison. Rule 7 is left to the tests
 * that run the class.
 */
public final class LanguageTest {
    private static final String SOURCE = "src/main/java/LogStore.java";
    private static final int PARAMETERS = 7;
    private static final int LINES = 60;
    private static final int DEPTH = 6;
    private static final int FIELDS = 40;

    private static final Set<TypeKind> TYPES = Set.of(
        TypeKind.INT, TypeKind.LONG, TypeKind.SHORT, TypeKind.BYTE, TypeKind.CHAR, TypeKind.BOOLEAN);

    private static final Set<Tree.Kind> LITERALS = Set.of(
        Tree.Kind.INT_LITERAL, Tree.Kind.LONG_LITERAL, Tree.Kind.CHAR_LITERAL, Tree.Kind.BOOLEAN_LITERAL);

    /** Not in the language of rules 2, 4, 6 and 8, whatever stands in them. */
    private static final Map<Tree.Kind, Integer> FORBIDDEN = Map.of(
        Tree.Kind.NEW_CLASS, 2,
        Tree.Kind.THROW, 6,
        Tree.Kind.TRY, 6,
        Tree.Kind.SYNCHRONIZED, 6,
        Tree.Kind.ASSERT, 6,
        Tree.Kind.INSTANCE_OF, 6,
        Tree.Kind.LAMBDA_EXPRESSION, 6,
        Tree.Kind.MEMBER_REFERENCE, 6,
        Tree.Kind.WHILE_LOOP, 8,
        Tree.Kind.DO_WHILE_LOOP, 8);

    private static final Set<Tree.Kind> COMPARISONS = Set.of(
        Tree.Kind.LESS_THAN, Tree.Kind.LESS_THAN_EQUAL, Tree.Kind.GREATER_THAN, Tree.Kind.GREATER_THAN_EQUAL);

    private static CompilationUnitTree unit;
    private static SourcePositions positions;
    private static int wrong = 0;

    private static final Map<String, Set<String>> callsOf = new TreeMap<>();
    private static final Set<String> publicMethods = new HashSet<>();
    private static final Set<String> privateMethods = new HashSet<>();
    private static final Set<String> constants = new HashSet<>();
    private static final Set<String> arrays = new HashSet<>();

    public static void main(String[] args) throws IOException {
        parse(args.length > 0 ? args[0] : SOURCE);
        ClassTree theClass = onlyClass();
        if (theClass != null) {
            members(theClass);
            privateNames();
            unit.accept(new Inside(), null);
            depths();
        }
        System.out.println(wrong == 0 ? "the rules of the language are kept" : wrong + " places break a rule");
        if (wrong != 0) {
            System.exit(1);
        }
    }

    private static void parse(String file) throws IOException {
        JavaCompiler compiler = ToolProvider.getSystemJavaCompiler();
        StandardJavaFileManager files = compiler.getStandardFileManager(null, null, null);
        JavacTask task = (JavacTask) compiler.getTask(
            null, files, null, null, null, files.getJavaFileObjects(Path.of(file)));
        unit = task.parse().iterator().next();
        positions = Trees.instance(task).getSourcePositions();
    }

    private static void broken(int rule, Tree where, String what) {
        wrong++;
        System.out.println("rule " + rule + ", line " + lineOf(positions.getStartPosition(unit, where)) + ": " + what);
    }

    private static long lineOf(long position) {
        return unit.getLineMap().getLineNumber(position);
    }

    private static ClassTree onlyClass() {
        if (unit.getPackageName() != null) {
            broken(1, unit.getPackage(), "a package line");
        }
        if (!unit.getImports().isEmpty()) {
            broken(3, unit.getImports().get(0), "an import");
        }
        if (unit.getTypeDecls().size() != 1 || unit.getTypeDecls().get(0).getKind() != Tree.Kind.CLASS) {
            broken(1, unit, "not one class alone");
            return null;
        }
        ClassTree theClass = (ClassTree) unit.getTypeDecls().get(0);
        boolean plain = theClass.getExtendsClause() == null
            && theClass.getImplementsClause().isEmpty()
            && theClass.getTypeParameters().isEmpty();
        if (!plain) {
            broken(2, theClass, "the class stands on another type");
        }
        return theClass;
    }

    // ---- members of the class

    private static void members(ClassTree theClass) {
        int fields = 0;
        for (Tree member : theClass.getMembers()) {
            if (member instanceof VariableTree field) {
                fields += field(field);
            } else if (member instanceof MethodTree method) {
                method(method);
            } else if (member instanceof BlockTree) {
                broken(5, member, "an initialiser block");
            } else {
                broken(1, member, "a nested type");
            }
        }
        if (fields > FIELDS) {
            broken(10, theClass, fields + " fields");
        }
    }

    private static int field(VariableTree field) {
        Set<Modifier> flags = field.getModifiers().getFlags();
        if (flags.contains(Modifier.STATIC)) {
            constants.add(field.getName().toString());
            if (!isConstant(field)) {
                broken(5, field, "a static field that is not a constant of int or long");
            }
            return 0;
        }
        if (field.getType() instanceof ArrayTypeTree) {
            arrays.add(field.getName().toString());
            if (!flags.contains(Modifier.FINAL) || !(field.getInitializer() instanceof NewArrayTree)) {
                broken(4, field, "an array that is not made once, by its field's initialiser");
            }
        }
        return 1;
    }

    private static boolean isConstant(VariableTree field) {
        String type = field.getType().toString();
        return field.getModifiers().getFlags().contains(Modifier.FINAL)
            && (type.equals("int") || type.equals("long"))
            && field.getInitializer() != null;
    }

    private static void method(MethodTree method) {
        String name = method.getName().toString();
        boolean isPrivate = method.getModifiers().getFlags().contains(Modifier.PRIVATE);
        (isPrivate ? privateMethods : publicMethods).add(name);
        callsOf.putIfAbsent(name, new TreeSet<>());
        if (method.getParameters().size() > PARAMETERS) {
            broken(10, method, name + " takes too many parameters");
        }
        if (method.getReturnType() instanceof ArrayTypeTree) {
            broken(4, method, name + " answers an array");
        }
        if (!method.getThrows().isEmpty()) {
            broken(6, method, name + " throws");
        }
        long first = lineOf(positions.getStartPosition(unit, method));
        long last = lineOf(positions.getEndPosition(unit, method));
        if (last - first + 1 > LINES) {
            broken(10, method, name + " is long");
        }
    }

    private static void privateNames() {
        for (String name : privateMethods) {
            if (publicMethods.contains(name)) {
                broken(1, unit, "a private method is called " + name + " as a public one is");
            }
        }
    }

    // ---- what stands inside

    private static final class Inside extends TreeScanner<Void, Void> {
        private String method = null;

        @Override
        public Void scan(Tree tree, Void none) {
            Integer rule = tree == null ? null : FORBIDDEN.get(tree.getKind());
            if (rule != null) {
                broken(rule, tree, tree.getKind().toString());
            }
            return super.scan(tree, none);
        }

        @Override
        public Void visitMethod(MethodTree tree, Void none) {
            method = tree.getName().toString();
            super.visitMethod(tree, none);
            method = null;
            return null;
        }

        @Override
        public Void visitAnnotation(AnnotationTree tree, Void none) {
            broken(3, tree, "an annotation");
            return super.visitAnnotation(tree, none);
        }

        @Override
        public Void visitVariable(VariableTree tree, Void none) {
            Tree type = tree.getType();
            if (method != null && type instanceof ArrayTypeTree && tree.getInitializer() != null) {
                broken(4, tree, "a local variable names an array");
            }
            if (!isAllowed(type)) {
                broken(2, tree, "type " + type);
            }
            return super.visitVariable(tree, none);
        }

        @Override
        public Void visitPrimitiveType(PrimitiveTypeTree tree, Void none) {
            TypeKind kind = tree.getPrimitiveTypeKind();
            if (kind != TypeKind.VOID && !TYPES.contains(kind)) {
                broken(2, tree, "type " + kind);
            }
            return super.visitPrimitiveType(tree, none);
        }

        @Override
        public Void visitLiteral(LiteralTree tree, Void none) {
            if (!LITERALS.contains(tree.getKind())) {
                broken(2, tree, "literal " + tree);
            }
            return super.visitLiteral(tree, none);
        }

        @Override
        public Void visitTypeCast(TypeCastTree tree, Void none) {
            if (!(tree.getType() instanceof PrimitiveTypeTree)) {
                broken(6, tree, "cast to " + tree.getType());
            }
            return super.visitTypeCast(tree, none);
        }

        @Override
        public Void visitMemberSelect(MemberSelectTree tree, Void none) {
            boolean isOwn = tree.getExpression().toString().equals("this");
            boolean isLength = tree.getIdentifier().contentEquals("length");
            if (!isOwn && !isLength) {
                broken(3, tree, tree + " is of another class");
            }
            return super.visitMemberSelect(tree, none);
        }

        @Override
        public Void visitNewArray(NewArrayTree tree, Void none) {
            if (method != null) {
                broken(4, tree, "a method makes an array");
            }
            boolean hasLength = tree.getInitializers() == null
                && tree.getDimensions().size() == 1
                && isLength(tree.getDimensions().get(0));
            if (!hasLength) {
                broken(4, tree, "an array's length is neither a literal nor a constant");
            }
            return super.visitNewArray(tree, none);
        }

        @Override
        public Void visitAssignment(AssignmentTree tree, Void none) {
            if (namesArray(tree.getVariable())) {
                broken(4, tree, "an array field is assigned to");
            }
            return super.visitAssignment(tree, none);
        }

        @Override
        public Void visitBinary(BinaryTree tree, Void none) {
            if (namesArray(tree.getLeftOperand()) || namesArray(tree.getRightOperand())) {
                broken(4, tree, "an array is compared");
            }
            return super.visitBinary(tree, none);
        }

        @Override
        public Void visitForLoop(ForLoopTree tree, Void none) {
            Tree condition = tree.getCondition();
            if (condition == null || !COMPARISONS.contains(condition.getKind())) {
                broken(8, tree, "a loop whose end is not a counter against a bound");
            }
            return super.visitForLoop(tree, none);
        }

        @Override
        public Void visitMethodInvocation(MethodInvocationTree tree, Void none) {
            String called = calledName(tree);
            if (!privateMethods.contains(called) && !publicMethods.contains(called)) {
                broken(3, tree, called + " is not a method of the class");
            } else if (method != null) {
                callsOf.get(method).add(called);
            }
            for (ExpressionTree argument : tree.getArguments()) {
                if (Boolean.TRUE.equals(argument.accept(new HasCall(), null))) {
                    broken(10, tree, "a call inside the arguments of " + called);
                }
            }
            return super.visitMethodInvocation(tree, none);
        }
    }

    private static final class HasCall extends TreeScanner<Boolean, Void> {
        @Override
        public Boolean visitMethodInvocation(MethodInvocationTree tree, Void none) {
            return true;
        }

        @Override
        public Boolean reduce(Boolean one, Boolean other) {
            return Boolean.TRUE.equals(one) || Boolean.TRUE.equals(other);
        }
    }

    private static boolean isAllowed(Tree type) {
        Tree inner = type instanceof ArrayTypeTree array ? array.getType() : type;
        return inner instanceof PrimitiveTypeTree;
    }

    private static boolean isLength(ExpressionTree length) {
        if (length.getKind() == Tree.Kind.INT_LITERAL) {
            return (Integer) ((LiteralTree) length).getValue() >= 1;
        }
        return length instanceof IdentifierTree && constants.contains(length.toString());
    }

    private static boolean namesArray(ExpressionTree expression) {
        String name = expression.toString();
        return arrays.contains(name.startsWith("this.") ? name.substring("this.".length()) : name);
    }

    /** super() of the constructor is put in by the compiler only later, so it isn't met here. */
    private static String calledName(MethodInvocationTree call) {
        String name = call.getMethodSelect().toString();
        return name.startsWith("this.") ? name.substring("this.".length()) : name;
    }

    // ---- rules 8 and 10: how calls go from method to method

    private static void depths() {
        for (String name : callsOf.keySet()) {
            int depth = depth(name, new HashSet<>());
            if (depth > DEPTH) {
                broken(10, unit, "calls from " + name + " go " + depth + " deep");
            }
        }
    }

    private static int depth(String name, Set<String> above) {
        if (!above.add(name)) {
            broken(8, unit, name + " calls itself, by itself or through others");
            return 0;
        }
        int deepest = 0;
        for (String called : callsOf.get(name)) {
            deepest = Math.max(deepest, depth(called, above));
        }
        above.remove(name);
        return deepest + 1;
    }
}
