import com.sun.source.tree.*;
import com.sun.source.util.JavacTask;
import com.sun.source.util.TreeScanner;
import java.io.File;
import java.util.*;
import javax.lang.model.element.Modifier;
import javax.tools.JavaCompiler;
import javax.tools.StandardJavaFileManager;
import javax.tools.ToolProvider;

/**
 * The rules of LANGUAGE.md that can be read off the program's syntax tree; a failure tells the rule's number.
 * It is stricter where that is easier to see: every loop is a for with a counter, every array is made in its field.
 */
public final class LanguageTest {
    private static final String SOURCE = "src/main/java/BridgeBoard.java";
    private static final Set<String> TYPES = Set.of("int", "long", "short", "byte", "char", "boolean", "void");
    private static final Set<Tree.Kind> BANNED = EnumSet.of(
        Tree.Kind.THROW, Tree.Kind.TRY, Tree.Kind.CATCH, Tree.Kind.SYNCHRONIZED, Tree.Kind.ASSERT,
        Tree.Kind.INSTANCE_OF, Tree.Kind.LAMBDA_EXPRESSION, Tree.Kind.MEMBER_REFERENCE, Tree.Kind.NEW_CLASS,
        Tree.Kind.NULL_LITERAL, Tree.Kind.STRING_LITERAL, Tree.Kind.FLOAT_LITERAL, Tree.Kind.DOUBLE_LITERAL,
        Tree.Kind.ENHANCED_FOR_LOOP, Tree.Kind.ANNOTATION);

    private static int wrong = 0;

    private final CompilationUnitTree unit;
    private final Map<String, MethodTree> methods = new LinkedHashMap<>();
    private final Map<String, Set<String>> calls = new LinkedHashMap<>();
    private final Map<String, VariableTree> fields = new LinkedHashMap<>();

    private LanguageTest(CompilationUnitTree unit) {
        this.unit = unit;
    }

    public static void main(String[] args) throws Exception {
        JavaCompiler compiler = ToolProvider.getSystemJavaCompiler();
        try (StandardJavaFileManager files = compiler.getStandardFileManager(null, null, null)) {
            JavacTask task = (JavacTask) compiler.getTask(null, files, null, null, null,
                files.getJavaFileObjects(new File(SOURCE)));
            for (CompilationUnitTree unit : task.parse()) {
                new LanguageTest(unit).check();
            }
        }
        System.out.println(wrong == 0 ? "the rules are kept" : wrong + " breaches of the rules");
        if (wrong != 0) {
            System.exit(1);
        }
    }

    private static void rule(int number, boolean kept, String what) {
        if (!kept) {
            wrong++;
            System.out.println("rule " + number + ": " + what);
        }
    }

    private void check() {
        rule(1, unit.getPackageName() == null, "a package line");
        rule(3, unit.getImports().isEmpty(), "an import");
        rule(1, unit.getTypeDecls().size() == 1, "more than one class");
        ClassTree type = (ClassTree) unit.getTypeDecls().get(0);
        collect(type);
        fields.values().forEach(LanguageTest::checkField);
        methods.values().forEach(this::checkMethod);
        rule(10, fields.values().stream().filter(f -> !isStatic(f)).count() <= 40, "more than forty fields");
        type.accept(new Everywhere(), null);
        for (String name : methods.keySet()) {
            rule(8, !reaches(name, name, new HashSet<>()), name + " calls itself");
        }
        if (wrong == 0) {
            for (String name : methods.keySet()) {
                rule(10, depth(name) <= 6, name + " calls deeper than six");
            }
        }
    }

    private void collect(ClassTree type) {
        rule(1, type.getModifiers().getFlags().equals(EnumSet.of(Modifier.PUBLIC, Modifier.FINAL)), "public and final");
        for (Tree member : type.getMembers()) {
            if (member instanceof VariableTree) {
                VariableTree field = (VariableTree) member;
                fields.put(field.getName().toString(), field);
            } else if (member instanceof MethodTree) {
                MethodTree method = (MethodTree) member;
                String name = method.getName().toString();
                rule(1, !methods.containsKey(name), "two methods named " + name);
                methods.put(name, method);
                calls.put(name, new TreeSet<>());
            } else {
                rule(1, false, "a member that is neither field nor method: " + member.getKind());
            }
        }
    }

    private static boolean isStatic(VariableTree field) {
        return field.getModifiers().getFlags().contains(Modifier.STATIC);
    }

    private static void checkField(VariableTree field) {
        Set<Modifier> flags = field.getModifiers().getFlags();
        String type = field.getType().toString();
        rule(1, flags.contains(Modifier.PRIVATE), "a field that is not private: " + field.getName());
        if (isStatic(field)) {
            boolean constant = flags.contains(Modifier.FINAL) && (type.equals("int") || type.equals("long"));
            rule(5, constant, "a static field that is no constant: " + field.getName());
        }
        if (type.endsWith("[]")) {
            // A final field that is made in its initialiser can't be assigned to by a method.
            boolean made = field.getInitializer() instanceof NewArrayTree && flags.contains(Modifier.FINAL);
            rule(4, made, "an array field that is not made once: " + field.getName());
        }
    }

    private void checkMethod(MethodTree method) {
        String name = method.getName().toString();
        rule(10, method.getParameters().size() <= 7, name + " has more than seven parameters");
        rule(10, method.toString().split("\n").length <= 60, name + " is longer than sixty lines");
        if (method.getReturnType() != null) {
            rule(4, !method.getReturnType().toString().endsWith("[]"), name + " answers an array");
            checkType(method.getReturnType(), name);
        }
        method.getBody().accept(new InMethod(name), null);
    }

    private static void checkType(Tree type, String where) {
        String name = type.toString();
        String element = name.endsWith("[]") ? name.substring(0, name.length() - 2) : name;
        rule(2, TYPES.contains(element), "the type " + name + " at " + where);
    }

    private boolean reaches(String from, String to, Set<String> seen) {
        for (String next : calls.get(from)) {
            if (next.equals(to) || calls.containsKey(next) && seen.add(next) && reaches(next, to, seen)) {
                return true;
            }
        }
        return false;
    }

    private int depth(String name) {
        int deepest = 0;
        for (String next : calls.get(name)) {
            deepest = Math.max(deepest, depth(next));
        }
        return deepest + 1;
    }

    /** What holds in fields and methods alike. */
    private final class Everywhere extends TreeScanner<Void, Void> {
        @Override
        public Void scan(Tree tree, Void nothing) {
            if (tree != null) {
                rule(6, !BANNED.contains(tree.getKind()), tree.getKind() + ": " + tree);
            }
            return super.scan(tree, nothing);
        }

        @Override
        public Void visitVariable(VariableTree variable, Void nothing) {
            checkType(variable.getType(), variable.getName().toString());
            return super.visitVariable(variable, nothing);
        }

        @Override
        public Void visitNewArray(NewArrayTree array, Void nothing) {
            rule(4, array.getInitializers() == null && array.getDimensions().size() == 1, "an array's form: " + array);
            for (ExpressionTree length : array.getDimensions()) {
                VariableTree named = fields.get(length.toString());
                rule(4, length instanceof LiteralTree || named != null && isStatic(named), "an array's length: " + array);
            }
            return super.visitNewArray(array, nothing);
        }

        @Override
        public Void visitMemberSelect(MemberSelectTree select, Void nothing) {
            rule(3, select.getExpression().toString().equals("this"), "a member of another class: " + select);
            return super.visitMemberSelect(select, nothing);
        }

        @Override
        public Void visitTypeCast(TypeCastTree cast, Void nothing) {
            rule(6, TYPES.contains(cast.getType().toString()), "a cast: " + cast);
            return super.visitTypeCast(cast, nothing);
        }
    }

    /** What holds in the body of a method or of the constructor. */
    private final class InMethod extends TreeScanner<Void, Void> {
        private final String name;
        private int insideArguments = 0;

        private InMethod(String name) {
            this.name = name;
        }

        @Override
        public Void visitMethodInvocation(MethodInvocationTree call, Void nothing) {
            String called = call.getMethodSelect().toString();
            rule(10, insideArguments == 0, "a call inside the arguments of another in " + name + ": " + call);
            // The parser puts the call of Object's constructor into our constructor.
            if (!called.equals("super")) {
                rule(3, methods.containsKey(called), "a call of no method of the class: " + call);
                calls.get(name).add(called);
            }
            insideArguments++;
            scan(call.getArguments(), nothing);
            insideArguments--;
            return null;
        }

        @Override
        public Void visitNewArray(NewArrayTree array, Void nothing) {
            rule(4, false, "an array made in " + name);
            return null;
        }

        @Override
        public Void visitWhileLoop(WhileLoopTree loop, Void nothing) {
            rule(8, false, "a loop without a counter in " + name);
            return super.visitWhileLoop(loop, nothing);
        }

        @Override
        public Void visitDoWhileLoop(DoWhileLoopTree loop, Void nothing) {
            rule(8, false, "a loop without a counter in " + name);
            return super.visitDoWhileLoop(loop, nothing);
        }

        @Override
        public Void visitForLoop(ForLoopTree loop, Void nothing) {
            boolean counted = loop.getInitializer().size() == 1 && loop.getCondition() != null
                && loop.getUpdate().size() == 1;
            rule(8, counted, "a loop without a counter in " + name);
            return super.visitForLoop(loop, nothing);
        }
    }
}
