import com.sun.source.tree.*;
import com.sun.source.util.JavacTask;
import com.sun.source.util.SourcePositions;
import com.sun.source.util.TreePath;
import com.sun.source.util.TreePathScanner;
import com.sun.source.util.Trees;
import java.lang.reflect.Field;
import java.lang.reflect.Modifier;
import java.nio.file.Files;
import java.nio.file.Path;
import java.util.ArrayList;
import java.util.IdentityHashMap;
import java.util.List;
import java.util.Map;
import java.util.Set;
import java.util.TreeMap;
import java.util.TreeSet;
import java.util.regex.Pattern;
import javax.lang.model.element.Element;
import javax.lang.model.element.ElementKind;
import javax.lang.model.type.TypeMirror;
import javax.tools.JavaCompiler;
import javax.tools.StandardJavaFileManager;
import javax.tools.ToolProvider;

/** The rules of LANGUAGE.md that can be read off the source as the compiler understands it, and the room. */
public final class LanguageTest {
    private static final Path SOURCE = Path.of("src/main/java/Patiencery.java");
    private static final int MOST_CLASSES = 12, MOST_FIELDS = 20, MOST_LINES = 60, MOST_PARAMETERS = 7, DEEPEST = 8;
    /** 512 objects, one for each call of a run, are to leave most of 600,000 and of 7.3 million free. */
    private static final int MOST_OBJECTS_EACH = 100, MOST_ELEMENTS_EACH = 4500;

    private static final Set<String> LIBRARY = Set.of("java.lang.Math.min", "java.lang.Math.max",
        "java.lang.Integer.bitCount", "java.lang.System.arraycopy", "java.util.Arrays.fill", "java.lang.Object.<init>",
        "java.lang.IllegalArgumentException.<init>", "java.lang.IllegalStateException.<init>",
        "java.lang.IndexOutOfBoundsException.<init>");
    private static final Set<Tree.Kind> NEVER = Set.of(Tree.Kind.TRY, Tree.Kind.CATCH, Tree.Kind.LAMBDA_EXPRESSION,
        Tree.Kind.MEMBER_REFERENCE, Tree.Kind.SYNCHRONIZED, Tree.Kind.ASSERT, Tree.Kind.SWITCH_EXPRESSION,
        Tree.Kind.BINDING_PATTERN, Tree.Kind.ANNOTATION, Tree.Kind.PACKAGE, Tree.Kind.UNION_TYPE,
        Tree.Kind.PARAMETERIZED_TYPE, Tree.Kind.INTERFACE, Tree.Kind.ENUM, Tree.Kind.RECORD);

    private static int wrong = 0;

    private static void right(boolean is, String what) {
        if (!is) {
            wrong++;
            System.out.println("LanguageTest: " + what);
        }
    }

    /** Looks at the source once, and notes which method calls which. */
    private static final class Reader extends TreePathScanner<Void, Void> {
        private final Map<Element, Set<Element>> calls = new java.util.LinkedHashMap<>();
        private final Trees trees;
        private final CompilationUnitTree unit;
        private final String source;
        private Element method = null;
        private String text = "";
        private int classes = 0;

        Reader(Trees trees, CompilationUnitTree unit, String source) {
            this.trees = trees;
            this.unit = unit;
            this.source = source;
        }

        @Override
        public Void scan(Tree tree, Void nothing) {
            if (tree != null) {
                right(!NEVER.contains(tree.getKind()), tree.getKind() + " stands in " + where());
            }
            return super.scan(tree, nothing);
        }

        private String where() {
            return method == null ? "a field" : method.getEnclosingElement().getSimpleName() + "." + method.getSimpleName();
        }

        private boolean isMaking() {
            return method == null || method.getKind() == ElementKind.CONSTRUCTOR;
        }

        @Override
        public Void visitClass(ClassTree tree, Void nothing) {
            classes++;
            right(classes <= MOST_CLASSES, "more than " + MOST_CLASSES + " classes");
            int fields = 0;
            for (Tree member : tree.getMembers()) {
                right(member.getKind() != Tree.Kind.BLOCK, "a block that no method holds");
                if (member instanceof VariableTree field) {
                    Set<javax.lang.model.element.Modifier> told = field.getModifiers().getFlags();
                    boolean isStatic = told.contains(javax.lang.model.element.Modifier.STATIC);
                    fields += isStatic ? 0 : 1;
                    right(!isStatic || told.contains(javax.lang.model.element.Modifier.FINAL) && field.getType().toString().equals("int"),
                        "a static field that is no constant: " + field.getName());
                }
            }
            right(fields <= MOST_FIELDS, tree.getSimpleName() + " has " + fields + " fields");
            return super.visitClass(tree, nothing);
        }

        @Override
        public Void visitMethod(MethodTree tree, Void nothing) {
            method = trees.getElement(getCurrentPath());
            calls.put(method, new java.util.LinkedHashSet<>());
            SourcePositions positions = trees.getSourcePositions();
            LineMap lines = unit.getLineMap();
            long start = positions.getStartPosition(unit, tree);
            long end = positions.getEndPosition(unit, tree);
            // the constructor that the compiler puts itself has no place in the source
            text = start >= 0 && end >= start ? source.substring((int) start, (int) end) : "";
            long many = text.isEmpty() ? 0 : lines.getLineNumber(end) - lines.getLineNumber(start) + 1;
            right(many <= MOST_LINES, where() + " has " + many + " lines");
            right(tree.getParameters().size() <= MOST_PARAMETERS, where() + " takes too many parameters");
            super.visitMethod(tree, nothing);
            method = null;
            return null;
        }

        @Override
        public Void visitMethodInvocation(MethodInvocationTree tree, Void nothing) {
            note(trees.getElement(getCurrentPath()));
            return super.visitMethodInvocation(tree, nothing);
        }

        @Override
        public Void visitNewClass(NewClassTree tree, Void nothing) {
            boolean isThrown = getCurrentPath().getParentPath().getLeaf().getKind() == Tree.Kind.THROW;
            right(isThrown || isMaking(), where() + " makes an object");
            right(tree.getClassBody() == null, where() + " has a class without a name");
            note(trees.getElement(getCurrentPath()));
            return super.visitNewClass(tree, nothing);
        }

        private void note(Element called) {
            Element owner = called.getEnclosingElement();
            boolean isOwn = owner.toString().equals("Patiencery") || owner.toString().startsWith("Patiencery.");
            right(isOwn || LIBRARY.contains(owner + "." + called.getSimpleName()), where() + " calls " + owner + "." + called);
            if (isOwn && method != null) {
                calls.get(method).add(called);
            }
        }

        @Override
        public Void visitNewArray(NewArrayTree tree, Void nothing) {
            right(isMaking(), where() + " makes an array");
            return super.visitNewArray(tree, nothing);
        }

        @Override
        public Void visitThrow(ThrowTree tree, Void nothing) {
            boolean isOfFace = method != null && method.getModifiers().contains(javax.lang.model.element.Modifier.PUBLIC)
                && method.getKind() == ElementKind.METHOD;
            right(isOfFace, where() + " throws, and is no method of the face");
            right(tree.getExpression() instanceof NewClassTree made && made.getArguments().size() == 1
                && made.getArguments().get(0).getKind() == Tree.Kind.STRING_LITERAL, where() + " throws no written text");
            return super.visitThrow(tree, nothing);
        }

        @Override
        public Void visitTypeCast(TypeCastTree tree, Void nothing) {
            right(typeOf(tree.getType()).getKind().isPrimitive(), where() + " casts a reference");
            return super.visitTypeCast(tree, nothing);
        }

        @Override
        public Void visitBinary(BinaryTree tree, Void nothing) {
            right(typeOf(tree).getKind().isPrimitive(), where() + " joins texts by +");
            if (tree.getKind() == Tree.Kind.DIVIDE || tree.getKind() == Tree.Kind.REMAINDER) {
                String divisor = tree.getRightOperand().toString();
                boolean isNumber = divisor.matches("[1-9][0-9]*");
                right(isNumber || text.contains(divisor + " > 0"), where() + " divides by " + divisor + " untested");
            }
            return super.visitBinary(tree, nothing);
        }

        @Override
        public Void visitCompoundAssignment(CompoundAssignmentTree tree, Void nothing) {
            boolean divides = tree.getKind() == Tree.Kind.DIVIDE_ASSIGNMENT || tree.getKind() == Tree.Kind.REMAINDER_ASSIGNMENT;
            right(!divides && typeOf(tree).getKind().isPrimitive(), where() + " divides or joins by an assignment");
            return super.visitCompoundAssignment(tree, nothing);
        }

        /** An index is a number of the method's own, which is looked at from above, and not below 0 by what is written. */
        @Override
        public Void visitArrayAccess(ArrayAccessTree tree, Void nothing) {
            String index = tree.getIndex().toString();
            boolean isName = index.matches("[a-z]\\w*");
            boolean hasTop = text.contains(index + " < ") || text.contains("isRow(" + index + ")")
                || text.contains(index + " = Math.min(") || text.contains(index + " = tops.length - 1");
            boolean hasBottom = text.contains(index + " >= 0") || text.contains("int " + index + " = 0;")
                || text.contains("int " + index + " = Math.max(first, 0)") || text.contains("isRow(" + index + ")");
            right(isName && hasTop && hasBottom, where() + " uses the index " + index + " untested");
            return super.visitArrayAccess(tree, nothing);
        }

        @Override
        public Void visitForLoop(ForLoopTree tree, Void nothing) {
            right(tree.getCondition() != null && Pattern.compile(" [<>]=? ").matcher(tree.getCondition().toString()).find(),
                where() + " has a loop without a bound");
            return super.visitForLoop(tree, nothing);
        }

        @Override
        public Void visitWhileLoop(WhileLoopTree tree, Void nothing) {
            right(tree.getCondition().toString().contains(" < "), where() + " has a loop without a bound");
            return super.visitWhileLoop(tree, nothing);
        }

        @Override
        public Void visitDoWhileLoop(DoWhileLoopTree tree, Void nothing) {
            right(false, where() + " has a loop whose bound is not looked at here");
            return super.visitDoWhileLoop(tree, nothing);
        }

        private TypeMirror typeOf(Tree tree) {
            return trees.getTypeMirror(new TreePath(getCurrentPath(), tree));
        }

        /** How many calls stand open at once, at most; the methods on the way tell a recursion. */
        int depth(Element from, List<Element> way) {
            right(!way.contains(from), from + " comes to call itself");
            if (way.contains(from)) {
                return 0;
            }
            way.add(from);
            int deepest = 0;
            for (Element called : calls.getOrDefault(from, Set.of())) {
                deepest = Math.max(deepest, depth(called, way));
            }
            way.remove(way.size() - 1);
            return deepest + 1;
        }
    }

    private static void read() throws java.io.IOException {
        JavaCompiler compiler = ToolProvider.getSystemJavaCompiler();
        try (StandardJavaFileManager files = compiler.getStandardFileManager(null, null, null)) {
            JavacTask task = (JavacTask) compiler.getTask(null, files, null, List.of("-proc:none"), null,
                files.getJavaFileObjects(SOURCE));
            CompilationUnitTree unit = task.parse().iterator().next();
            task.analyze();
            right(unit.getTypeDecls().size() == 1, "more than one class stands in the file itself");
            Reader reader = new Reader(Trees.instance(task), unit, Files.readString(SOURCE));
            reader.scan(unit, null);
            right(reader.classes > 1 && reader.calls.size() > 50, "nothing was read");
            Map<Integer, Set<String>> depths = new TreeMap<>();
            for (Element method : reader.calls.keySet()) {
                depths.computeIfAbsent(reader.depth(method, new ArrayList<>()), d -> new TreeSet<>()).add(method.toString());
            }
            right(depths.keySet().stream().allMatch(d -> d <= DEEPEST), "calls go too deep: " + depths);
        }
    }

    private static void signs() throws java.io.IOException {
        for (byte sign : Files.readAllBytes(SOURCE)) {
            right(sign == '\n' || sign >= 32 && sign < 127, "a sign that is not to be typed: " + sign);
        }
    }

    // ---- the room

    private static int objects = 0;
    private static int elements = 0;

    private static void count(Object object, Map<Object, Boolean> seen) throws IllegalAccessException {
        if (object == null || seen.put(object, true) != null) {
            return;
        }
        objects++;
        Class<?> kind = object.getClass();
        if (kind.isArray()) {
            elements += java.lang.reflect.Array.getLength(object);
            right(kind.getComponentType().isPrimitive(), "an array of objects, which is not counted here");
            return;
        }
        for (Field field : kind.getDeclaredFields()) {
            if (!Modifier.isStatic(field.getModifiers())) {
                elements++;
                field.setAccessible(true);
                if (!field.getType().isPrimitive()) {
                    count(field.get(object), seen);
                }
            }
        }
    }

    /** No call makes anything, which read() looks at: so what an object takes first is all that it ever takes. */
    private static void room() throws IllegalAccessException {
        count(new Patiencery(), new IdentityHashMap<>());
        right(objects <= MOST_OBJECTS_EACH, "one takes " + objects + " objects");
        right(elements <= MOST_ELEMENTS_EACH, "one takes " + elements + " elements");
    }

    public static void main(String[] args) throws Exception {
        read();
        signs();
        room();
        System.out.println("LanguageTest: " + (wrong == 0 ? "the rules are kept, " + objects + " objects and " + elements
            + " elements each" : wrong + " wrong"));
        if (wrong != 0) {
            System.exit(1);
        }
    }
}
