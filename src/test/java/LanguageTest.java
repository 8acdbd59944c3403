import com.sun.source.tree.AnnotationTree;
import com.sun.source.tree.ArrayAccessTree;
import com.sun.source.tree.AssertTree;
import com.sun.source.tree.AssignmentTree;
import com.sun.source.tree.BinaryTree;
import com.sun.source.tree.BlockTree;
import com.sun.source.tree.CaseTree;
import com.sun.source.tree.ClassTree;
import com.sun.source.tree.CompilationUnitTree;
import com.sun.source.tree.CompoundAssignmentTree;
import com.sun.source.tree.DoWhileLoopTree;
import com.sun.source.tree.ForLoopTree;
import com.sun.source.tree.ImportTree;
import com.sun.source.tree.InstanceOfTree;
import com.sun.source.tree.LambdaExpressionTree;
import com.sun.source.tree.MemberReferenceTree;
import com.sun.source.tree.MemberSelectTree;
import com.sun.source.tree.MethodInvocationTree;
import com.sun.source.tree.MethodTree;
import com.sun.source.tree.NewArrayTree;
import com.sun.source.tree.NewClassTree;
import com.sun.source.tree.SwitchExpressionTree;
import com.sun.source.tree.SynchronizedTree;
import com.sun.source.tree.ThrowTree;
import com.sun.source.tree.Tree;
import com.sun.source.tree.TryTree;
import com.sun.source.tree.TypeCastTree;
import com.sun.source.tree.VariableTree;
import com.sun.source.tree.WhileLoopTree;
import com.sun.source.util.JavacTask;
import com.sun.source.util.TreePath;
import com.sun.source.util.TreePathScanner;
import com.sun.source.util.Trees;
import java.io.IOException;
import java.nio.file.Files;
import java.nio.file.Path;
import java.util.ArrayList;
import java.util.HashMap;
import java.util.HashSet;
import java.util.List;
import java.util.Map;
import java.util.Set;
import java.util.TreeMap;
import java.util.TreeSet;
import javax.lang.model.element.Element;
import javax.lang.model.element.ElementKind;
import javax.lang.model.element.ExecutableElement;
import javax.lang.model.element.Modifier;
import javax.lang.model.element.TypeElement;
import javax.lang.model.type.TypeMirror;
import javax.tools.JavaCompiler;
import javax.tools.StandardJavaFileManager;
import javax.tools.ToolProvider;

/**
 * LANGUAGE.md, as far as the class's own source shows it, read by the compiler. Where a rule leaves more than the class
 * needs, this test holds to what the class needs; widen it with the rule at hand.
 */
public final class LanguageTest {
    private static final Path FILE = Path.of("src/main/java/PealOfExcuses.java");
    private static final Set<String> LIBRARY = Set.of("String.length", "String.charAt", "String.indexOf", "Math.max",
        "Math.min", "Math.abs", "System.arraycopy");
    // The document's own NO, and nothing else.
    private static final Set<String> LIBRARY_FIELDS = Set.of("Long.MIN_VALUE");
    private static final Set<String> TYPES = Set.of("int", "long", "byte", "char", "boolean", "int[]", "long[]", "byte[]",
        "char[]", "boolean[]", "java.lang.String");
    private static final Set<String> CONSTANT_TYPES = Set.of("int", "long", "boolean", "char", "java.lang.String", "int[]",
        "long[]", "char[]", "byte[]");
    // What calls itself, and so carries its depth.
    private static final Set<String> RECURSIVE = Set.of("Actor.perform", "Reader.readEither", "Reader.readPart");

    private final Checks c = new Checks("LanguageTest");
    private final Map<String, Set<String>> calls = new TreeMap<>();
    private final Map<String, MethodTree> methods = new HashMap<>();

    public static void main(String[] args) throws IOException {
        LanguageTest test = new LanguageTest();
        test.signs();
        test.source();
        test.depth();
        test.recursion();
        test.c.end();
    }

    /** Rule 4: signs 1 to 127. */
    private void signs() throws IOException {
        int strange = 0;
        for (byte sign : Files.readAllBytes(FILE)) {
            strange += sign < 1 ? 1 : 0;
        }
        c.due("signs beyond 127", strange, 0);
    }

    private void source() throws IOException {
        JavaCompiler compiler = ToolProvider.getSystemJavaCompiler();
        try (StandardJavaFileManager files = compiler.getStandardFileManager(null, null, null)) {
            JavacTask task = (JavacTask) compiler.getTask(null, files, null, List.of("-proc:none", "--release", "17"), null,
                files.getJavaFileObjects(FILE));
            List<CompilationUnitTree> units = new ArrayList<>();
            task.parse().forEach(units::add);
            task.analyze();
            c.due("files", units.size(), 1);
            new Reading(Trees.instance(task), units.get(0)).scan(units.get(0), null);
        }
    }

    /** Rule 11: calls that are no recursion go at most eight deep. */
    private void depth() {
        c.holds("calls were seen", calls.size() > 50);
        for (String from : calls.keySet()) {
            List<String> deepest = deepest(from, new ArrayList<>());
            c.holds("at most eight deep: " + deepest, deepest.size() <= 8);
        }
    }

    private List<String> deepest(String from, List<String> open) {
        open.add(from);
        List<String> best = new ArrayList<>(open);
        for (String to : calls.getOrDefault(from, Set.of())) {
            if (!open.contains(to)) {
                List<String> way = deepest(to, open);
                best = way.size() > best.size() ? way : best;
            }
        }
        open.remove(open.size() - 1);
        return best;
    }

    /** Rule 8: what calls itself carries its depth as its last number. */
    private void recursion() {
        Set<String> found = new TreeSet<>();
        for (String from : calls.keySet()) {
            if (reaches(from, from, new HashSet<>())) {
                found.add(from);
                List<? extends VariableTree> parameters = methods.get(from).getParameters();
                String last = parameters.get(parameters.size() - 1).getName().toString();
                c.holds(from + " carries its depth", last.equals("depth") || last.equals("within"));
                c.holds(from + " is private", methods.get(from).getModifiers().getFlags().contains(Modifier.PRIVATE));
            }
        }
        c.holds("what calls itself: " + found, found.equals(RECURSIVE));
    }

    private boolean reaches(String from, String to, Set<String> seen) {
        for (String next : calls.getOrDefault(from, Set.of())) {
            if (next.equals(to) || seen.add(next) && reaches(next, to, seen)) {
                return true;
            }
        }
        return false;
    }

    private final class Reading extends TreePathScanner<Void, Void> {
        private final Trees trees;
        private final CompilationUnitTree unit;
        private final Set<String> face = new HashSet<>();
        private String method = "";
        private boolean building;
        private int classes;
        private boolean inCode;

        Reading(Trees trees, CompilationUnitTree unit) {
            this.trees = trees;
            this.unit = unit;
        }

        private long line(long position) {
            return unit.getLineMap().getLineNumber(position);
        }

        private String at(Tree tree) {
            return " in line " + line(trees.getSourcePositions().getStartPosition(unit, tree));
        }

        private void none(String rule, Tree tree) {
            c.holds(rule + at(tree), false);
        }

        private Element element() {
            return trees.getElement(getCurrentPath());
        }

        private String type(Tree tree) {
            TypeMirror type = trees.getTypeMirror(new TreePath(getCurrentPath(), tree));
            return type == null ? "none" : type.toString();
        }

        private String nameOf(Element e) {
            return e.getEnclosingElement().getSimpleName() + "." + e.getSimpleName();
        }

        private boolean isOwn(Element e) {
            Element at = e;
            while (at.getEnclosingElement() != null && at.getEnclosingElement().getKind() != ElementKind.PACKAGE) {
                at = at.getEnclosingElement();
            }
            return at.getSimpleName().contentEquals("PealOfExcuses");
        }

        @Override
        public Void visitCompilationUnit(CompilationUnitTree tree, Void none) {
            c.holds("no package line", tree.getPackage() == null);
            c.due("one class in the file", tree.getTypeDecls().size(), 1);
            super.visitCompilationUnit(tree, none);
            c.holds("rule 11: some twelve classes at most, here " + classes, classes <= 12);
            return null;
        }

        @Override
        public Void visitImport(ImportTree tree, Void none) {
            String name = tree.getQualifiedIdentifier().toString();
            c.holds("rule 4: " + name, name.matches("java\\.util\\.(ArrayList|List|Arrays|Iterator)"));
            return null;
        }

        @Override
        public Void visitClass(ClassTree tree, Void none) {
            classes++;
            TypeElement type = (TypeElement) element();
            boolean top = type.getEnclosingElement().getKind() == ElementKind.PACKAGE;
            Set<Modifier> flags = tree.getModifiers().getFlags();
            c.holds("rule 1: public, or static and not open: " + type, top ? flags.contains(Modifier.PUBLIC)
                : flags.contains(Modifier.STATIC) && !flags.contains(Modifier.PUBLIC) && !flags.contains(Modifier.PROTECTED));
            c.holds("rule 2: inside the class alone: " + type, top || type.getEnclosingElement().getKind().isClass());
            int fields = 0;
            for (Tree member : tree.getMembers()) {
                if (member instanceof VariableTree field) {
                    fields += field.getModifiers().getFlags().contains(Modifier.STATIC) ? 0 : 1;
                }
                c.holds("rule 5: no initialiser block" + at(member), !(member instanceof BlockTree));
                if (top && member instanceof MethodTree m && m.getModifiers().getFlags().contains(Modifier.PUBLIC)) {
                    face.add(m.getName().toString());
                }
            }
            c.holds("rule 11: some twenty fields at most in " + type + ", here " + fields, fields <= 20);
            return super.visitClass(tree, none);
        }

        @Override
        public Void visitMethod(MethodTree tree, Void none) {
            ExecutableElement e = (ExecutableElement) element();
            String before = method;
            method = nameOf(e);
            building = e.getKind() == ElementKind.CONSTRUCTOR;
            c.holds("each name once: " + method, building || methods.put(method, tree) == null);
            calls.computeIfAbsent(method, k -> new TreeSet<>());
            boolean hidden = !tree.getModifiers().getFlags().contains(Modifier.PUBLIC);
            c.holds("rule 1: no hidden one is named " + method, !hidden || building || !face.contains(tree.getName().toString()));
            c.holds("rule 11: seven parameters at most: " + method, tree.getParameters().size() <= 7);
            c.due("rule 6: throws, " + method, tree.getThrows().size(), 0);
            long lines = line(trees.getSourcePositions().getEndPosition(unit, tree))
                - line(trees.getSourcePositions().getStartPosition(unit, tree)) + 1;
            c.holds("rule 11: some sixty lines at most: " + method + ", here " + lines, lines <= 60);
            inCode = true;
            super.visitMethod(tree, none);
            inCode = false;
            building = false;
            method = before;
            return null;
        }

        @Override
        public Void visitVariable(VariableTree tree, Void none) {
            Element e = element();
            String type = e.asType().toString();
            boolean own = type.startsWith("PealOfExcuses.");
            c.holds("rule 3: the type " + type + at(tree), own || TYPES.contains(type));
            c.holds("rule 3: of one dimension: " + type + at(tree), !type.endsWith("[][]"));
            if (e.getKind() == ElementKind.FIELD && tree.getModifiers().getFlags().contains(Modifier.STATIC)) {
                c.holds("rule 5: final" + at(tree), tree.getModifiers().getFlags().contains(Modifier.FINAL));
                c.holds("rule 5: a constant's type " + type + at(tree), CONSTANT_TYPES.contains(type));
                c.holds("rule 5: written out" + at(tree), tree.getInitializer() != null);
            }
            return super.visitVariable(tree, none);
        }

        @Override
        public Void visitMethodInvocation(MethodInvocationTree tree, Void none) {
            Element e = element();
            boolean own = isOwn(e);
            boolean implied = e.getKind() == ElementKind.CONSTRUCTOR;
            c.holds("rule 4: " + nameOf(e) + at(tree), own || implied || LIBRARY.contains(nameOf(e)));
            c.holds("rule 12: a constructor calls nothing of its own" + at(tree), !building || implied);
            if (own && !implied) {
                calls.get(method).add(nameOf(e));
            }
            return super.visitMethodInvocation(tree, none);
        }

        @Override
        public Void visitMemberSelect(MemberSelectTree tree, Void none) {
            Element e = element();
            boolean length = tree.getIdentifier().contentEquals("length");
            if (e != null && e.getKind() == ElementKind.FIELD && !length && !isOwn(e)) {
                c.holds("rule 4: " + nameOf(e) + at(tree), LIBRARY_FIELDS.contains(nameOf(e)));
            }
            return super.visitMemberSelect(tree, none);
        }

        /** Rule 12, and more: only constructors and fields make objects, so no call does. */
        @Override
        public Void visitNewClass(NewClassTree tree, Void none) {
            c.holds("rule 12: made by a constructor" + at(tree), building || !inCode);
            c.holds("rule 2: of no body of its own" + at(tree), tree.getClassBody() == null);
            return super.visitNewClass(tree, none);
        }

        @Override
        public Void visitNewArray(NewArrayTree tree, Void none) {
            c.holds("rule 12: made by a constructor" + at(tree), building || !inCode);
            return super.visitNewArray(tree, none);
        }

        @Override
        public Void visitBinary(BinaryTree tree, Void none) {
            c.holds("rule 10: no text joined by +" + at(tree), !type(tree).equals("java.lang.String"));
            boolean compares = tree.getKind() == Tree.Kind.EQUAL_TO || tree.getKind() == Tree.Kind.NOT_EQUAL_TO;
            c.holds("rule 6: no texts held against each other by ==" + at(tree),
                !compares || !type(tree.getLeftOperand()).equals("java.lang.String"));
            return super.visitBinary(tree, none);
        }

        @Override
        public Void visitCompoundAssignment(CompoundAssignmentTree tree, Void none) {
            c.holds("rule 10: no text joined by +=" + at(tree), !type(tree.getVariable()).equals("java.lang.String"));
            return super.visitCompoundAssignment(tree, none);
        }

        @Override
        public Void visitTypeCast(TypeCastTree tree, Void none) {
            c.holds("no cast but of numbers" + at(tree), tree.getType().getKind() == Tree.Kind.PRIMITIVE_TYPE);
            return super.visitTypeCast(tree, none);
        }

        /** Rule 9: every loop has an end that can be seen. */
        @Override
        public Void visitForLoop(ForLoopTree tree, Void none) {
            c.holds("rule 9: a bound" + at(tree), tree.getCondition() != null && tree.getUpdate().size() > 0);
            return super.visitForLoop(tree, none);
        }

        @Override
        public Void visitWhileLoop(WhileLoopTree tree, Void none) {
            none("rule 9: no loop without a counter", tree);
            return super.visitWhileLoop(tree, none);
        }

        @Override
        public Void visitDoWhileLoop(DoWhileLoopTree tree, Void none) {
            none("rule 9: no loop without a counter", tree);
            return super.visitDoWhileLoop(tree, none);
        }

        /** Rule 5: the arrays that are constants are never changed. */
        @Override
        public Void visitAssignment(AssignmentTree tree, Void none) {
            if (tree.getVariable() instanceof ArrayAccessTree place) {
                Element array = trees.getElement(new TreePath(getCurrentPath(), place.getExpression()));
                c.holds("rule 5: no constant is changed" + at(tree),
                    array != null && !array.getModifiers().contains(Modifier.STATIC));
            }
            return super.visitAssignment(tree, none);
        }

        @Override
        public Void visitCase(CaseTree tree, Void none) {
            c.holds("no -> in a switch" + at(tree), tree.getCaseKind() == CaseTree.CaseKind.STATEMENT);
            return super.visitCase(tree, none);
        }

        @Override
        public Void visitSwitchExpression(SwitchExpressionTree tree, Void none) {
            none("no switch that answers", tree);
            return super.visitSwitchExpression(tree, none);
        }

        @Override
        public Void visitLambdaExpression(LambdaExpressionTree tree, Void none) {
            none("rule 2: no lambda", tree);
            return super.visitLambdaExpression(tree, none);
        }

        @Override
        public Void visitMemberReference(MemberReferenceTree tree, Void none) {
            none("rule 2: no method reference", tree);
            return super.visitMemberReference(tree, none);
        }

        @Override
        public Void visitThrow(ThrowTree tree, Void none) {
            none("rule 6: no throw", tree);
            return super.visitThrow(tree, none);
        }

        @Override
        public Void visitTry(TryTree tree, Void none) {
            none("rule 6: no try", tree);
            return super.visitTry(tree, none);
        }

        @Override
        public Void visitSynchronized(SynchronizedTree tree, Void none) {
            none("rule 6: no synchronized", tree);
            return super.visitSynchronized(tree, none);
        }

        @Override
        public Void visitAssert(AssertTree tree, Void none) {
            none("rule 6: no assert", tree);
            return super.visitAssert(tree, none);
        }

        @Override
        public Void visitInstanceOf(InstanceOfTree tree, Void none) {
            none("no instanceof", tree);
            return super.visitInstanceOf(tree, none);
        }

        @Override
        public Void visitAnnotation(AnnotationTree tree, Void none) {
            none("no annotation", tree);
            return super.visitAnnotation(tree, none);
        }
    }
}
