import com.sun.source.tree.BinaryTree;
import com.sun.source.tree.ClassTree;
import com.sun.source.tree.CompilationUnitTree;
import com.sun.source.tree.IdentifierTree;
import com.sun.source.tree.MemberSelectTree;
import com.sun.source.tree.MethodInvocationTree;
import com.sun.source.tree.MethodTree;
import com.sun.source.tree.NewArrayTree;
import com.sun.source.tree.NewClassTree;
import com.sun.source.tree.Tree;
import com.sun.source.tree.TypeCastTree;
import com.sun.source.tree.VariableTree;
import com.sun.source.util.JavacTask;
import com.sun.source.util.TreePathScanner;
import com.sun.source.util.Trees;
import java.io.IOException;
import java.nio.file.Path;
import java.util.HashMap;
import java.util.HashSet;
import java.util.List;
import java.util.Map;
import java.util.Set;
import java.util.TreeSet;
import javax.lang.model.element.Element;
import javax.lang.model.element.ElementKind;
import javax.lang.model.element.ExecutableElement;
import javax.lang.model.element.Modifier;
import javax.lang.model.element.TypeElement;
import javax.lang.model.type.TypeKind;
import javax.lang.model.type.TypeMirror;
import javax.tools.JavaCompiler;
import javax.tools.StandardJavaFileManager;
import javax.tools.ToolProvider;

/** The rules of ../shared/LANGUAGE.md that need the parsed source: who calls whom, what is made where, types. */
final class LanguageTest {
    private static final Path SOURCE = Path.of("src", "main", "java", "GapStations.java");
    private static final int DEEPEST_CALLS = 8;
    private static final Set<String> LIBRARY = Set.of("java.lang.Math.max", "java.lang.Math.min",
        "java.lang.Integer.bitCount", "java.lang.System.arraycopy", "java.lang.Long.MIN_VALUE",
        "java.lang.Object.<init>");
    private static final Set<Tree.Kind> NOT_THERE = Set.of(Tree.Kind.TRY, Tree.Kind.THROW, Tree.Kind.CATCH,
        Tree.Kind.SYNCHRONIZED, Tree.Kind.ASSERT, Tree.Kind.LAMBDA_EXPRESSION, Tree.Kind.MEMBER_REFERENCE,
        Tree.Kind.INSTANCE_OF, Tree.Kind.SWITCH_EXPRESSION, Tree.Kind.STRING_LITERAL, Tree.Kind.ANNOTATION,
        Tree.Kind.IMPORT, Tree.Kind.PACKAGE, Tree.Kind.DOUBLE_LITERAL, Tree.Kind.FLOAT_LITERAL);
    private static final Checks c = new Checks();

    private final Trees trees;
    private final Set<String> faceNames = new HashSet<>();
    private final Map<Element, Set<Element>> callees = new HashMap<>();

    private LanguageTest(Trees trees) {
        this.trees = trees;
    }

    public static void main(String[] args) throws IOException {
        JavaCompiler compiler = ToolProvider.getSystemJavaCompiler();
        try (StandardJavaFileManager files = compiler.getStandardFileManager(null, null, null)) {
            JavacTask task = (JavacTask) compiler.getTask(null, files, null, List.of("-proc:none"), null,
                files.getJavaFileObjects(SOURCE));
            CompilationUnitTree unit = task.parse().iterator().next();
            task.analyze();
            LanguageTest test = new LanguageTest(Trees.instance(task));
            test.new Face().scan(unit, null);
            test.new Rules().scan(unit, null);
            test.depths();
        }
        c.end();
    }

    private static String nameOf(Element element) {
        return element == null ? "a field" : element.getEnclosingElement() + "." + element.getSimpleName();
    }

    /** Rule 1: the names of the face. */
    private final class Face extends TreePathScanner<Void, Void> {
        @Override
        public Void visitMethod(MethodTree tree, Void none) {
            if (tree.getModifiers().getFlags().contains(Modifier.PUBLIC)) {
                faceNames.add(tree.getName().toString());
            }
            return super.visitMethod(tree, none);
        }
    }

    private final class Rules extends TreePathScanner<Void, Void> {
        private Element method = null;
        private boolean isRun = false;

        @Override
        public Void scan(Tree tree, Void none) {
            if (tree != null) {
                c.due(tree.getKind() + " in " + method, NOT_THERE.contains(tree.getKind()) ? 1 : 0, 0);
            }
            return super.scan(tree, none);
        }

        @Override
        public Void visitClass(ClassTree tree, Void none) {
            c.promise("LANGUAGE.md 1 and 2");
            Element element = trees.getElement(getCurrentPath());
            boolean isInside = element.getEnclosingElement() instanceof TypeElement;
            Set<Modifier> flags = element.getModifiers();
            c.due(element + " is as private and static, or public, as it must be", isInside
                ? flags.contains(Modifier.STATIC) && !flags.contains(Modifier.PUBLIC) ? 1 : 0
                : flags.equals(Set.of(Modifier.PUBLIC, Modifier.FINAL)) ? 1 : 0, 1);
            return super.visitClass(tree, none);
        }

        @Override
        public Void visitMethod(MethodTree tree, Void none) {
            Element element = trees.getElement(getCurrentPath());
            boolean isConstructor = element.getKind() == ElementKind.CONSTRUCTOR;
            c.promise("LANGUAGE.md 1");
            c.due(nameOf(element) + " is private by a name of the face", !isConstructor
                && !element.getModifiers().contains(Modifier.PUBLIC)
                && faceNames.contains(element.getSimpleName().toString()) ? 1 : 0, 0);
            method = element;
            isRun = !isConstructor;
            callees.computeIfAbsent(element, key -> new HashSet<>());
            super.visitMethod(tree, none);
            method = null;
            isRun = false;
            return null;
        }

        @Override
        public Void visitVariable(VariableTree tree, Void none) {
            Element element = trees.getElement(getCurrentPath());
            if (element.getKind() == ElementKind.FIELD) {
                c.promise("LANGUAGE.md 5");
                boolean isStatic = element.getModifiers().contains(Modifier.STATIC);
                c.due(element + ", if static, is a final number", isStatic
                    && !(element.getModifiers().contains(Modifier.FINAL) && element.asType().getKind().isPrimitive())
                    ? 1 : 0, 0);
            }
            type(element.toString(), element.asType());
            return super.visitVariable(tree, none);
        }

        private void type(String name, TypeMirror type) {
            c.promise("LANGUAGE.md 3");
            TypeMirror item = type.getKind() == TypeKind.ARRAY ? ((javax.lang.model.type.ArrayType) type).getComponentType()
                : type;
            boolean isOwn = item.toString().equals("GapStations") || item.toString().startsWith("GapStations.");
            c.due(name + " is a " + type, item.getKind().isPrimitive() || isOwn ? 1 : 0, 1);
        }

        @Override
        public Void visitNewClass(NewClassTree tree, Void none) {
            c.promise("README.md: no call makes an object");
            c.due(tree + " in " + method, isRun ? 1 : 0, 0);
            return super.visitNewClass(tree, none);
        }

        @Override
        public Void visitNewArray(NewArrayTree tree, Void none) {
            c.promise("README.md: no call makes an object");
            c.due(tree + " in " + method, isRun ? 1 : 0, 0);
            return super.visitNewArray(tree, none);
        }

        @Override
        public Void visitTypeCast(TypeCastTree tree, Void none) {
            c.promise("LANGUAGE.md 6");
            c.due("the cast " + tree + " is of a number", tree.getType().getKind() == Tree.Kind.PRIMITIVE_TYPE ? 1 : 0, 1);
            return super.visitTypeCast(tree, none);
        }

        @Override
        public Void visitBinary(BinaryTree tree, Void none) {
            c.promise("LANGUAGE.md 7");
            boolean isDivision = tree.getKind() == Tree.Kind.DIVIDE || tree.getKind() == Tree.Kind.REMAINDER;
            String by = tree.getRightOperand().toString();
            // The greatest common divisor is looked at ahead of each of its divisions.
            boolean isSafe = by.equals("2") || nameOf(method).equals("GapStations.partOf") && Set.of("a", "b").contains(by);
            c.due("what " + tree + " is divided by is looked at", isDivision && !isSafe ? 1 : 0, 0);
            return super.visitBinary(tree, none);
        }

        @Override
        public Void visitMethodInvocation(MethodInvocationTree tree, Void none) {
            Element called = trees.getElement(new com.sun.source.util.TreePath(getCurrentPath(), tree.getMethodSelect()));
            if (method != null && isOwn(called)) {
                callees.get(method).add(called);
            }
            return super.visitMethodInvocation(tree, none);
        }

        @Override
        public Void visitMemberSelect(MemberSelectTree tree, Void none) {
            library(trees.getElement(getCurrentPath()));
            return super.visitMemberSelect(tree, none);
        }

        @Override
        public Void visitIdentifier(IdentifierTree tree, Void none) {
            library(trees.getElement(getCurrentPath()));
            return super.visitIdentifier(tree, none);
        }

        private void library(Element element) {
            boolean isMember = element instanceof ExecutableElement || element != null && element.getKind().isField()
                && !element.getSimpleName().contentEquals("length");
            if (isMember && !isOwn(element)) {
                c.promise("LANGUAGE.md 4");
                c.due(nameOf(element) + " is allowed", LIBRARY.contains(nameOf(element)) ? 1 : 0, 1);
            }
        }

        private boolean isOwn(Element element) {
            String owner = element.getEnclosingElement() == null ? "" : element.getEnclosingElement().toString();
            boolean isHeld = element.getKind() == ElementKind.FIELD && (element.toString().equals("this") || owner.isEmpty());
            return isHeld || owner.equals("GapStations") || owner.startsWith("GapStations.");
        }
    }

    /** Rules 8 and 11: who calls itself, and how deep calls go. */
    private void depths() {
        c.promise("LANGUAGE.md 8 and 11");
        Set<String> turns = new TreeSet<>();
        int deepest = 0;
        for (Element method : callees.keySet()) {
            deepest = Math.max(deepest, depth(method, new HashSet<>(), turns));
        }
        c.dueText("who calls itself", turns.toString(), "[GapStations.Widths.areSeated]");
        c.due("calls go " + deepest + " deep", deepest <= DEEPEST_CALLS ? 1 : 0, 1);
        for (Element method : callees.keySet()) {
            if (callees.get(method).contains(method)) {
                c.due(nameOf(method) + " is private and static", method.getModifiers()
                    .containsAll(Set.of(Modifier.PRIVATE, Modifier.STATIC)) ? 1 : 0, 1);
            }
        }
    }

    private int depth(Element method, Set<Element> open, Set<String> turns) {
        if (!open.add(method)) {
            turns.add(nameOf(method));
            return 0;
        }
        int deepest = 0;
        for (Element called : callees.getOrDefault(method, Set.of())) {
            deepest = Math.max(deepest, depth(called, open, turns));
        }
        open.remove(method);
        return deepest + 1;
    }
}
