import com.sun.source.tree.*;
import com.sun.source.util.JavacTask;
import com.sun.source.util.TreeScanner;
import java.io.File;
import java.util.ArrayList;
import java.util.EnumSet;
import java.util.List;
import java.util.Map;
import java.util.Set;
import java.util.TreeMap;
import java.util.TreeSet;
import javax.lang.model.element.Modifier;
import javax.tools.JavaCompiler;
import javax.tools.StandardJavaFileManager;
import javax.tools.ToolProvider;

/**
 * The source keeps to LANGUAGE.md as far as its form shows it; FaceTest looks at the members.
 * It is run from the project's folder, as .ci/run does.
 */
public final class LanguageTest {
    private static final String SOURCE = "src/main/java/VersionStore.java";

    private static final Set<Tree.Kind> RULED_OUT = EnumSet.of(
        Tree.Kind.THROW, Tree.Kind.TRY, Tree.Kind.CATCH, Tree.Kind.SYNCHRONIZED, Tree.Kind.ASSERT,
        Tree.Kind.INSTANCE_OF, Tree.Kind.LAMBDA_EXPRESSION, Tree.Kind.MEMBER_REFERENCE,
        Tree.Kind.NEW_CLASS, Tree.Kind.NULL_LITERAL, Tree.Kind.STRING_LITERAL,
        Tree.Kind.FLOAT_LITERAL, Tree.Kind.DOUBLE_LITERAL, Tree.Kind.IMPORT, Tree.Kind.PACKAGE,
        Tree.Kind.ANNOTATION, Tree.Kind.PARAMETERIZED_TYPE);

    private static int wrong = 0;

    private static void check(boolean holds, String rule, Object told) {
        if (!holds) {
            wrong++;
            System.out.println(rule + ": " + told);
        }
    }

    public static void main(String[] args) throws Exception {
        File[] sources = new File(SOURCE).getParentFile().listFiles();
        check(sources.length == 1, "one class in one file", List.of(sources));
        JavaCompiler compiler = ToolProvider.getSystemJavaCompiler();
        StandardJavaFileManager files = compiler.getStandardFileManager(null, null, null);
        JavacTask task = (JavacTask) compiler.getTask(null, files, null,
            List.of("-proc:none"), null, files.getJavaFileObjects(SOURCE));
        for (CompilationUnitTree unit : task.parse()) {
            check(unit.getTypeDecls().size() == 1, "rule 1", "not one class");
            checkClass((ClassTree) unit.getTypeDecls().get(0));
            unit.accept(new Forms(), null);
        }
        System.out.println(wrong == 0 ? "the source keeps to the rules" : wrong + " rules broken");
        if (wrong != 0) {
            System.exit(1);
        }
    }

    private static void checkClass(ClassTree type) {
        Map<String, Set<String>> calls = new TreeMap<>();
        int fields = 0;
        for (Tree member : type.getMembers()) {
            if (member instanceof VariableTree) {
                fields += checkField((VariableTree) member) ? 1 : 0;
            } else if (member instanceof MethodTree) {
                MethodTree method = (MethodTree) member;
                Calls found = new Calls();
                method.accept(found, null);
                String name = method.getName().toString();
                check(calls.put(name, found.names) == null, "rule 1", name + " is there twice");
                check(found.arrays == 0, "rule 4", name + " makes an array");
                check(method.toString().split("\n").length <= 60, "rule 10", name + " is long");
                check(method.getParameters().size() <= 7, "rule 10", name + " takes too many");
            } else {
                check(false, "rules 1 and 5", member);
            }
        }
        check(fields <= 40, "rule 10", fields + " fields");
        for (String name : calls.keySet()) {
            checkDepth(name, calls, new ArrayList<>());
        }
    }

    // Answers whether the field is one beside the constants.
    private static boolean checkField(VariableTree field) {
        Set<Modifier> flags = field.getModifiers().getFlags();
        check(flags.contains(Modifier.PRIVATE), "rule 1", field);
        if (flags.contains(Modifier.STATIC)) {
            check(flags.contains(Modifier.FINAL), "rule 5", field);
            return false;
        }
        if (field.getType().getKind() == Tree.Kind.ARRAY_TYPE) {
            // A final field is made once, and no method can assign to it.
            check(flags.contains(Modifier.FINAL), "rule 4", field);
            check(isArrayOfFixedLength(field.getInitializer()), "rule 4", field);
        }
        return true;
    }

    private static boolean isArrayOfFixedLength(ExpressionTree made) {
        if (!(made instanceof NewArrayTree) || ((NewArrayTree) made).getDimensions().size() != 1) {
            return false;
        }
        Tree length = ((NewArrayTree) made).getDimensions().get(0);
        return length instanceof LiteralTree || length instanceof IdentifierTree;
    }

    private static void checkDepth(String name, Map<String, Set<String>> calls, List<String> way) {
        check(!way.contains(name), "rule 8", way + " comes back to " + name);
        check(way.size() < 6, "rule 10", way + " goes too deep with " + name);
        check(calls.containsKey(name), "rule 3", name + " is no method of the class");
        if (way.contains(name) || way.size() >= 6 || !calls.containsKey(name)) {
            return;
        }
        List<String> longer = new ArrayList<>(way);
        longer.add(name);
        for (String next : calls.get(name)) {
            checkDepth(next, calls, longer);
        }
    }

    /** The names that a method calls, and how many arrays it makes. */
    private static final class Calls extends TreeScanner<Void, Void> {
        final Set<String> names = new TreeSet<>();
        int arrays = 0;

        @Override
        public Void visitMethodInvocation(MethodInvocationTree call, Void none) {
            names.add(call.getMethodSelect().toString());
            Calls inside = new Calls();
            inside.scan(call.getArguments(), null);
            check(inside.names.isEmpty(), "rule 10", call + " has a call in its arguments");
            return super.visitMethodInvocation(call, none);
        }

        @Override
        public Void visitNewArray(NewArrayTree array, Void none) {
            arrays++;
            return super.visitNewArray(array, none);
        }
    }

    private static final class Forms extends TreeScanner<Void, Void> {
        @Override
        public Void scan(Tree tree, Void none) {
            check(tree == null || !RULED_OUT.contains(tree.getKind()),
                "rules 2, 3, 4 and 6", tree);
            return super.scan(tree, none);
        }

        // No name of another class can stand in the source without a dot or as a type.
        @Override
        public Void visitMemberSelect(MemberSelectTree select, Void none) {
            check(select.getIdentifier().contentEquals("length"), "rule 3", select);
            return super.visitMemberSelect(select, none);
        }

        @Override
        public Void visitVariable(VariableTree variable, Void none) {
            checkType(variable.getType());
            return super.visitVariable(variable, none);
        }

        @Override
        public Void visitMethod(MethodTree method, Void none) {
            if (method.getReturnType() != null) {
                check(method.getReturnType().getKind() == Tree.Kind.PRIMITIVE_TYPE,
                    "rules 2 and 4", method.getName());
            }
            return super.visitMethod(method, none);
        }

        @Override
        public Void visitTypeCast(TypeCastTree cast, Void none) {
            check(cast.getType().getKind() == Tree.Kind.PRIMITIVE_TYPE, "rule 6", cast);
            return super.visitTypeCast(cast, none);
        }

        @Override
        public Void visitForLoop(ForLoopTree loop, Void none) {
            check(loop.getCondition() != null && loop.getUpdate().size() == 1, "rule 8", loop);
            return super.visitForLoop(loop, none);
        }

        @Override
        public Void visitPrimitiveType(PrimitiveTypeTree type, Void none) {
            String name = type.toString();
            check(!name.equals("float") && !name.equals("double"), "rule 2", name);
            return super.visitPrimitiveType(type, none);
        }

        private static void checkType(Tree type) {
            Tree part = type;
            if (part instanceof ArrayTypeTree) {
                part = ((ArrayTypeTree) part).getType();
            }
            check(part instanceof PrimitiveTypeTree, "rule 2", type);
        }
    }
}
