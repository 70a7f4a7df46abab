import com.sun.source.tree.*;
import com.sun.source.util.JavacTask;
import com.sun.source.util.TreePath;
import com.sun.source.util.TreePathScanner;
import com.sun.source.util.Trees;
import java.nio.file.Files;
import java.nio.file.Path;
import java.util.ArrayList;
import java.util.EnumSet;
import java.util.HashSet;
import java.util.LinkedHashMap;
import java.util.LinkedHashSet;
import java.util.List;
import java.util.Map;
import java.util.Set;
import javax.lang.model.element.Element;
import javax.lang.model.element.ElementKind;
import javax.lang.model.element.ExecutableElement;
import javax.lang.model.element.Modifier;
import javax.lang.model.element.TypeElement;
import javax.lang.model.type.ArrayType;
import javax.lang.model.type.DeclaredType;
import javax.lang.model.type.TypeKind;
import javax.lang.model.type.TypeMirror;
import javax.tools.JavaCompiler;
import javax.tools.StandardJavaFileManager;
import javax.tools.ToolProvider;

/** The rules of LANGUAGE.md, looked up in the tree that the compiler makes of PolyLathe.java. */
public final class LanguageTest {
    private static final Path SOURCE = Path.of("src/main/java/PolyLathe.java");
    /** What rule 4 lists, as far as it has a name of its own; "<init>" is new. */
    private static final Map<String, Set<String>> LIBRARY = Map.of(
        "java.lang.Object", Set.of("<init>"),
        "java.lang.String", Set.of("length", "charAt", "isEmpty", "equals", "indexOf", "substring", "toCharArray", "<init>"),
        "java.lang.StringBuilder", Set.of("<init>", "append", "charAt", "setCharAt", "setLength", "deleteCharAt", "reverse", "length", "toString"),
        "java.lang.Math", Set.of("min", "max", "abs", "floorDiv", "floorMod"),
        "java.lang.Integer", Set.of("compare", "max", "min", "bitCount"),
        "java.lang.Long", Set.of("compare", "max", "min", "bitCount"),
        "java.lang.System", Set.of("arraycopy"),
        "java.util.Arrays", Set.of("copyOf", "copyOfRange", "fill"),
        "java.util.ArrayList", Set.of("<init>", "add", "get", "set", "remove", "size", "isEmpty", "clear"),
        "java.util.List", Set.of("add", "get", "set", "remove", "size", "isEmpty", "clear", "of"));
    private static final Set<String> EXCEPTIONS = Set.of("IllegalStateException", "IllegalArgumentException", "IndexOutOfBoundsException",
        "ArithmeticException", "UnsupportedOperationException", "NoSuchElementException", "RuntimeException");
    private static final Set<String> OBJECTS = Set.of("java.lang.String", "java.lang.StringBuilder", "java.lang.Integer", "java.util.List", "java.util.ArrayList");
    private static final EnumSet<Tree.Kind> NEVER = EnumSet.of(Tree.Kind.LAMBDA_EXPRESSION, Tree.Kind.MEMBER_REFERENCE, Tree.Kind.SYNCHRONIZED,
        Tree.Kind.ASSERT, Tree.Kind.PACKAGE, Tree.Kind.SWITCH_EXPRESSION, Tree.Kind.TRY, Tree.Kind.ANNOTATION);
    private static final int MOST_PARAMETERS = 7;
    private static final int MOST_LINES = 60;
    private static final int MOST_CLASSES = 12;
    private static final int MOST_FIELDS = 20;
    private static final int DEEPEST_CALL = 8;

    private LanguageTest() {
    }

    private static final class Rules extends TreePathScanner<Void, Void> {
        final Trees trees;
        final CompilationUnitTree unit;
        final Map<ExecutableElement, Set<ExecutableElement>> calls = new LinkedHashMap<>();
        final Set<String> face = new HashSet<>();
        final List<ExecutableElement> hidden = new ArrayList<>();
        int classes;

        Rules(Trees trees, CompilationUnitTree unit) {
            this.trees = trees;
            this.unit = unit;
        }

        private Element element() {
            return trees.getElement(getCurrentPath());
        }

        private String where(Tree tree) {
            CompilationUnitTree unit = getCurrentPath().getCompilationUnit();
            return "line " + unit.getLineMap().getLineNumber(trees.getSourcePositions().getStartPosition(unit, tree));
        }

        private static boolean isOwn(Element e) {
            Element outer = e;
            while (outer.getEnclosingElement().getKind() != ElementKind.PACKAGE) {
                outer = outer.getEnclosingElement();
            }
            return outer.getSimpleName().contentEquals("PolyLathe");
        }

        private <T> T enclosing(Class<T> kind) {
            for (TreePath path = getCurrentPath().getParentPath(); path != null; path = path.getParentPath()) {
                if (kind.isInstance(path.getLeaf())) {
                    return kind.cast(path.getLeaf());
                }
            }
            return null;
        }

        private ExecutableElement enclosingMethod() {
            for (TreePath path = getCurrentPath(); path != null; path = path.getParentPath()) {
                if (path.getLeaf() instanceof MethodTree) {
                    return (ExecutableElement) trees.getElement(path);
                }
            }
            return null;
        }

        @Override
        public Void scan(Tree tree, Void nothing) {
            if (tree != null) {
                Check.holds(where(tree) + " may have a " + tree.getKind(), !NEVER.contains(tree.getKind()));
            }
            return super.scan(tree, nothing);
        }

        /** Rules 1, 2 and 11. */
        @Override
        public Void visitClass(ClassTree tree, Void nothing) {
            classes++;
            TypeElement type = (TypeElement) element();
            boolean outer = type.getEnclosingElement().getKind() == ElementKind.PACKAGE;
            Set<Modifier> signs = type.getModifiers();
            Check.holds(type + " is static inside", outer || signs.contains(Modifier.STATIC));
            Check.holds(type + " is no exception", type.getSuperclass().toString().equals("java.lang.Object"));
            int fields = 0;
            for (Element member : type.getEnclosedElements()) {
                if (member.getKind() == ElementKind.FIELD && member.getModifiers().contains(Modifier.STATIC)) {
                    Check.holds("rule 5: " + member, member.getModifiers().contains(Modifier.FINAL) && isConstant(member.asType()));
                } else if (member.getKind() == ElementKind.FIELD) {
                    fields++;
                }
                if (outer && member.getModifiers().contains(Modifier.PUBLIC)) {
                    face.add(member.getSimpleName().toString());
                } else if (member.getKind() == ElementKind.METHOD) {
                    hidden.add((ExecutableElement) member);
                }
            }
            Check.holds("rule 11: fields of " + type, fields <= MOST_FIELDS);
            for (Tree member : tree.getMembers()) {
                Check.holds("rule 5: " + type + " has no initialiser block", member.getKind() != Tree.Kind.BLOCK);
            }
            return super.visitClass(tree, nothing);
        }

        private static boolean isConstant(TypeMirror type) {
            TypeMirror part = type.getKind() == TypeKind.ARRAY ? ((ArrayType) type).getComponentType() : type;
            return Set.of("int", "long", "boolean", "char", "byte", "java.lang.String").contains(part.toString());
        }

        /** Rule 11: parameters and lines. */
        @Override
        public Void visitMethod(MethodTree tree, Void nothing) {
            ExecutableElement method = (ExecutableElement) element();
            calls.computeIfAbsent(method, m -> new LinkedHashSet<>());
            Check.holds("rule 6: " + method, !Set.of("equals", "hashCode", "toString").contains(method.getSimpleName().toString()));
            Check.holds("rule 11: parameters of " + method, tree.getParameters().size() <= MOST_PARAMETERS);
            LineMap lines = unit.getLineMap();
            long first = lines.getLineNumber(trees.getSourcePositions().getStartPosition(unit, tree));
            long last = lines.getLineNumber(trees.getSourcePositions().getEndPosition(unit, tree));
            Check.holds("rule 11: lines of " + method, last - first < MOST_LINES);
            return super.visitMethod(tree, nothing);
        }

        /** Rule 3: the types. */
        @Override
        public Void visitVariable(VariableTree tree, Void nothing) {
            Check.holds("rule 3: " + where(tree) + ": " + tree, isAllowed(element().asType(), 0));
            return super.visitVariable(tree, nothing);
        }

        private boolean isAllowed(TypeMirror type, int dimensions) {
            if (type.getKind() == TypeKind.ARRAY) {
                return dimensions < 2 && isAllowed(((ArrayType) type).getComponentType(), dimensions + 1);
            }
            if (type.getKind().isPrimitive()) {
                return true;
            }
            if (type.getKind() != TypeKind.DECLARED || dimensions > 1) {
                return false;
            }
            TypeElement declared = (TypeElement) ((DeclaredType) type).asElement();
            return isOwn(declared) || (dimensions == 0 && OBJECTS.contains(declared.getQualifiedName().toString()));
        }

        /** Rule 4, and what calls what, for rules 8 and 11. */
        @Override
        public Void visitMethodInvocation(MethodInvocationTree tree, Void nothing) {
            ExecutableElement called = (ExecutableElement) trees.getElement(new TreePath(getCurrentPath(), tree.getMethodSelect()));
            look(tree, called);
            return super.visitMethodInvocation(tree, nothing);
        }

        private void look(Tree tree, ExecutableElement called) {
            TypeElement owner = (TypeElement) called.getEnclosingElement();
            if (isOwn(owner)) {
                ExecutableElement caller = enclosingMethod();
                Check.holds(where(tree) + " calls in a method", caller != null);
                calls.computeIfAbsent(caller, m -> new LinkedHashSet<>()).add(called);
                return;
            }
            Set<String> listed = LIBRARY.getOrDefault(owner.getQualifiedName().toString(), Set.of());
            Check.holds("rule 4: " + where(tree) + ": " + owner + "." + called, listed.contains(called.getSimpleName().toString()));
        }

        /** Rule 12: objects are made by constructors alone, but for exceptions. */
        @Override
        public Void visitNewClass(NewClassTree tree, Void nothing) {
            if (enclosing(ThrowTree.class) == null) {
                look(tree, (ExecutableElement) element());
                Check.holds("rule 12: " + where(tree), enclosingMethod().getKind() == ElementKind.CONSTRUCTOR);
            }
            return super.visitNewClass(tree, nothing);
        }

        @Override
        public Void visitNewArray(NewArrayTree tree, Void nothing) {
            ExecutableElement method = enclosingMethod();
            Check.holds("rule 12: " + where(tree), method == null || method.getKind() == ElementKind.CONSTRUCTOR);
            return super.visitNewArray(tree, nothing);
        }

        /** Rule 6. */
        @Override
        public Void visitThrow(ThrowTree tree, Void nothing) {
            Check.holds("rule 6: " + where(tree), tree.getExpression() instanceof NewClassTree);
            NewClassTree made = (NewClassTree) tree.getExpression();
            Check.holds("rule 6: " + where(tree), EXCEPTIONS.contains(made.getIdentifier().toString()) && made.getClassBody() == null);
            for (ExpressionTree argument : made.getArguments()) {
                Check.holds("rule 6: " + where(tree), argument.getKind() == Tree.Kind.STRING_LITERAL && made.getArguments().size() == 1);
            }
            Check.holds("rule 6: " + where(tree), enclosingMethod().getKind() == ElementKind.METHOD);
            return super.visitThrow(tree, nothing);
        }

        /** Rules 3 and 10. */
        @Override
        public Void visitBinary(BinaryTree tree, Void nothing) {
            TypeMirror type = trees.getTypeMirror(getCurrentPath());
            Check.holds("rule 10: " + where(tree), type.getKind().isPrimitive());
            Check.holds("rule 3: " + where(tree), tree.getKind() != Tree.Kind.REMAINDER || type.getKind() != TypeKind.DOUBLE);
            return super.visitBinary(tree, nothing);
        }

        /** Rule 6: a cast of a reference needs a test, and none is needed here. */
        @Override
        public Void visitTypeCast(TypeCastTree tree, Void nothing) {
            Check.holds("rule 6: " + where(tree), trees.getTypeMirror(getCurrentPath()).getKind().isPrimitive());
            return super.visitTypeCast(tree, nothing);
        }

        /** Rule 9: no loop without a condition. */
        @Override
        public Void visitForLoop(ForLoopTree tree, Void nothing) {
            Check.holds("rule 9: " + where(tree), tree.getCondition() != null && tree.getCondition().getKind() != Tree.Kind.BOOLEAN_LITERAL);
            return super.visitForLoop(tree, nothing);
        }

        @Override
        public Void visitWhileLoop(WhileLoopTree tree, Void nothing) {
            Check.holds("rule 9: " + where(tree), !tree.getCondition().toString().equals("(true)"));
            return super.visitWhileLoop(tree, nothing);
        }
    }

    /** The most calls that stand open at once, each method but once among them. */
    private static int depth(Rules rules, ExecutableElement method, Set<ExecutableElement> open) {
        int deepest = 0;
        open.add(method);
        for (ExecutableElement called : rules.calls.getOrDefault(method, Set.of())) {
            if (!open.contains(called)) {
                deepest = Math.max(deepest, depth(rules, called, open));
            }
        }
        open.remove(method);
        return deepest + 1;
    }

    private static boolean reaches(Rules rules, ExecutableElement from, ExecutableElement to, Set<ExecutableElement> seen) {
        for (ExecutableElement called : rules.calls.getOrDefault(from, Set.of())) {
            if (called.equals(to) || (seen.add(called) && reaches(rules, called, to, seen))) {
                return true;
            }
        }
        return false;
    }

    /** Rules 8 and 11: how deep calls go, and which methods call themselves. */
    private static void callsOf(Rules rules) {
        Set<String> again = new HashSet<>();
        for (ExecutableElement method : rules.calls.keySet()) {
            Check.holds("rule 11: calls below " + method, depth(rules, method, new HashSet<>()) <= DEEPEST_CALL);
            if (reaches(rules, method, method, new HashSet<>())) {
                again.add(method.getSimpleName().toString());
                Check.holds("rule 8: " + method + " is private", method.getModifiers().contains(Modifier.PRIVATE));
                Check.holds("rule 8: " + method + " carries the depth", method.getParameters().toString().equals("depth"));
            }
        }
        Check.holds("the recursion is that of the reading: " + again, again.equals(Set.of("readSum", "readProduct", "readSigned", "readBase")));
        for (ExecutableElement method : rules.hidden) {
            Check.holds("rule 1: " + method + " has a name of its own", !rules.face.contains(method.getSimpleName().toString()));
        }
        Check.holds("rule 11: classes", rules.classes <= MOST_CLASSES);
    }

    public static void main(String[] args) throws Exception {
        JavaCompiler compiler = ToolProvider.getSystemJavaCompiler();
        try (StandardJavaFileManager files = compiler.getStandardFileManager(null, null, null)) {
            List<String> options = List.of("-proc:none");
            JavacTask task = (JavacTask) compiler.getTask(null, files, null, options, null, files.getJavaFileObjects(SOURCE));
            CompilationUnitTree unit = task.parse().iterator().next();
            task.analyze();
            Rules rules = new Rules(Trees.instance(task), unit);
            rules.scan(new TreePath(unit), null);
            callsOf(rules);
        }
        Check.holds("signs 1 to 127", Files.readString(SOURCE).chars().allMatch(c -> c > 0 && c < 128));
        Check.end("LanguageTest");
    }
}
