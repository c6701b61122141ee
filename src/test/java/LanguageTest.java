import com.sun.source.tree.BinaryTree;
import com.sun.source.tree.ClassTree;
import com.sun.source.tree.CompilationUnitTree;
import com.sun.source.tree.ExpressionTree;
import com.sun.source.tree.IdentifierTree;
import com.sun.source.tree.LiteralTree;
import com.sun.source.tree.MemberSelectTree;
import com.sun.source.tree.MethodInvocationTree;
import com.sun.source.tree.MethodTree;
import com.sun.source.tree.NewArrayTree;
import com.sun.source.tree.NewClassTree;
import com.sun.source.tree.Tree;
import com.sun.source.tree.VariableTree;
import com.sun.source.util.JavacTask;
import com.sun.source.util.TreeScanner;
import java.io.IOException;
import java.lang.reflect.Constructor;
import java.lang.reflect.Field;
import java.lang.reflect.Method;
import java.lang.reflect.Modifier;
import java.nio.file.Files;
import java.nio.file.Path;
import java.util.EnumSet;
import java.util.HashMap;
import java.util.Map;
import java.util.Set;
import java.util.TreeSet;
import javax.tools.JavaCompiler;
import javax.tools.StandardJavaFileManager;
import javax.tools.ToolProvider;

/** What LANGUAGE.md asks of src/main/java/KinProver.java, as far as its trees show it. */
public final class LanguageTest {
    private static final Path SOURCE = Path.of("src/main/java/KinProver.java");
    private static final Due due = new Due("LanguageTest");
    private static final Set<Tree.Kind> FORBIDDEN = EnumSet.of(Tree.Kind.THROW, Tree.Kind.TRY, Tree.Kind.CATCH,
        Tree.Kind.SYNCHRONIZED, Tree.Kind.ASSERT, Tree.Kind.LAMBDA_EXPRESSION, Tree.Kind.MEMBER_REFERENCE,
        Tree.Kind.IMPORT, Tree.Kind.PACKAGE, Tree.Kind.WHILE_LOOP, Tree.Kind.DO_WHILE_LOOP);
    private static final Set<String> LIBRARY = Set.of("System.arraycopy", "Math.min", "Math.max", "Math.abs",
        "Integer.bitCount", "text.length", "text.charAt");
    private static final Set<String> FACE = Set.of("feed", "clear", "paper", "person", "sex", "state", "live", "of",
        "spell", "name", "find", "byName", "people", "end", "year", "proof", "prove", "clash", "why", "culprit", "same",
        "narrows", "rounds", "kin", "common", "half", "title", "path", "relatives", "ancestors", "descendants", "order",
        "ahead", "told", "list", "set", "get", "lay", "judge", "image", "undo");

    private static final Map<String, TreeSet<String>> calls = new HashMap<>();
    private static final Map<String, Integer> depths = new HashMap<>();
    private static int classes;

    public static void main(String[] args) throws IOException {
        signs();
        face();
        JavaCompiler compiler = ToolProvider.getSystemJavaCompiler();
        try (StandardJavaFileManager files = compiler.getStandardFileManager(null, null, null)) {
            JavacTask task = (JavacTask) compiler.getTask(null, files, null, null, null, files.getJavaFileObjects(SOURCE));
            for (CompilationUnitTree unit : task.parse()) {
                due.is("types in the file", unit.getTypeDecls().size(), 1);
                new Rules(unit, com.sun.source.util.Trees.instance(task).getSourcePositions()).scan(unit, null);
            }
        }
        atMost("classes", classes, 12);
        for (String method : calls.keySet()) {
            atMost("calls deep from " + method, depth(method, 0), 8);
        }
        due.end();
    }

    private static void atMost(String what, long got, long most) {
        due.is(what + " (" + got + ", at most " + most + ")", got <= most ? 1 : 0, 1);
    }

    private static void never(String what) {
        due.is(what, 1, 0);
    }

    private static void signs() throws IOException {
        String source = Files.readString(SOURCE);
        for (int i = 0; i < source.length(); i++) {
            if (source.charAt(i) > 126 || source.charAt(i) < 32 && source.charAt(i) != '\n') {
                never("sign at " + i);
            }
        }
    }

    /** The members that others see are those of the document and no other. */
    private static void face() {
        Set<String> seen = new TreeSet<>();
        for (Method method : KinProver.class.getDeclaredMethods()) {
            if (Modifier.isPublic(method.getModifiers())) {
                seen.add(method.getName());
                due.is("type of " + method, FACE.contains(method.getName()) ? 1 : 0, 1);
                boolean wide = Set.of("relatives", "ancestors", "descendants", "get").contains(method.getName());
                due.is("answer of " + method, method.getReturnType() == (wide ? long.class : int.class) ? 1 : 0, 1);
            } else {
                due.is(method + " is private", Modifier.isPrivate(method.getModifiers()) ? 1 : 0, 1);
                due.is(method + " bears a public name", FACE.contains(method.getName()) ? 1 : 0, 0);
            }
        }
        due.is("public methods", seen.size(), FACE.size());
        for (Field field : KinProver.class.getDeclaredFields()) {
            boolean told = Set.of("NONE", "BAD", "STATE", "FULL", "NO").contains(field.getName());
            due.is(field + " is public", Modifier.isPublic(field.getModifiers()) ? 1 : 0, told ? 1 : 0);
            due.is(field + " is private", Modifier.isPrivate(field.getModifiers()) ? 1 : 0, told ? 0 : 1);
        }
        for (Constructor<?> made : KinProver.class.getDeclaredConstructors()) {
            due.is(made + " without arguments", made.getParameterCount(), 0);
        }
        due.is("the class is final", Modifier.isFinal(KinProver.class.getModifiers()) ? 1 : 0, 1);
        for (Class<?> inside : KinProver.class.getDeclaredClasses()) {
            due.is(inside + " is static", Modifier.isStatic(inside.getModifiers()) ? 1 : 0, 1);
            due.is(inside + " is public", Modifier.isPublic(inside.getModifiers()) ? 1 : 0, 0);
        }
    }

    /** No method calls itself, also by others, and none stands open over more than so many. */
    private static int depth(String method, int over) {
        if (over > 40) {
            never("recursion by " + method);
            return over;
        }
        if (depths.containsKey(method)) {
            return depths.get(method);
        }
        int deepest = 0;
        for (String called : calls.getOrDefault(method, new TreeSet<>())) {
            if (calls.containsKey(called)) {
                deepest = Math.max(deepest, depth(called, over + 1));
            } else {
                never("call of " + called + " by " + method);
            }
        }
        depths.put(method, deepest + 1);
        return deepest + 1;
    }

    private static final class Rules extends TreeScanner<Void, Void> {
        private final CompilationUnitTree unit;
        private final com.sun.source.util.SourcePositions positions;
        private String inside = "";
        private MethodTree method;

        Rules(CompilationUnitTree unit, com.sun.source.util.SourcePositions positions) {
            this.unit = unit;
            this.positions = positions;
        }

        private long line(long position) {
            return unit.getLineMap().getLineNumber(position);
        }

        @Override
        public Void scan(Tree tree, Void nothing) {
            if (tree != null && FORBIDDEN.contains(tree.getKind())) {
                never(tree.getKind() + " at line " + line(positions.getStartPosition(unit, tree)));
            }
            return super.scan(tree, nothing);
        }

        @Override
        public Void visitClass(ClassTree tree, Void nothing) {
            classes++;
            int fields = 0;
            for (Tree member : tree.getMembers()) {
                if (member instanceof VariableTree field) {
                    Set<javax.lang.model.element.Modifier> modifiers = field.getModifiers().getFlags();
                    boolean isStatic = modifiers.contains(javax.lang.model.element.Modifier.STATIC);
                    boolean isFinal = modifiers.contains(javax.lang.model.element.Modifier.FINAL);
                    due.is("static field " + field.getName() + " is final", isStatic && !isFinal ? 1 : 0, 0);
                    fields += isStatic ? 0 : 1;
                }
                if (member.getKind() == Tree.Kind.BLOCK) {
                    never("initialiser block in " + tree.getSimpleName());
                }
            }
            atMost("fields of " + tree.getSimpleName(), fields, 20);
            String outside = inside;
            inside = tree.getSimpleName().toString();
            super.visitClass(tree, nothing);
            inside = outside;
            return null;
        }

        @Override
        public Void visitMethod(MethodTree tree, Void nothing) {
            String name = tree.getName().toString();
            long lines = line(positions.getEndPosition(unit, tree)) - line(positions.getStartPosition(unit, tree)) + 1;
            atMost("lines of " + name, lines, 60);
            atMost("parameters of " + name, tree.getParameters().size(), 7);
            if (!inside.equals("KinProver") && FACE.contains(name)) {
                never(inside + "." + name + " bears a name of the face");
            }
            due.is("methods named " + inside + "." + name, calls.containsKey(inside + "." + name) ? 1 : 0, 0);
            calls.put(inside + "." + name, new TreeSet<>());
            method = tree;
            super.visitMethod(tree, nothing);
            method = null;
            return null;
        }

        /** All rows are made once, when the object is; a call makes nothing. */
        private void isMadeOnce(Tree tree) {
            if (method != null && !method.getName().contentEquals("<init>")) {
                never("new at line " + line(positions.getStartPosition(unit, tree)));
            }
        }

        @Override
        public Void visitNewClass(NewClassTree tree, Void nothing) {
            isMadeOnce(tree);
            due.is("class with a body at line " + line(positions.getStartPosition(unit, tree)),
                tree.getClassBody() == null ? 0 : 1, 0);
            return super.visitNewClass(tree, nothing);
        }

        @Override
        public Void visitNewArray(NewArrayTree tree, Void nothing) {
            isMadeOnce(tree);
            return super.visitNewArray(tree, nothing);
        }

        @Override
        public Void visitBinary(BinaryTree tree, Void nothing) {
            boolean text = isText(tree.getLeftOperand()) || isText(tree.getRightOperand());
            due.is("text joined by + at line " + line(positions.getStartPosition(unit, tree)), text ? 1 : 0, 0);
            return super.visitBinary(tree, nothing);
        }

        private static boolean isText(ExpressionTree tree) {
            return tree instanceof LiteralTree literal && literal.getValue() instanceof String;
        }

        @Override
        public Void visitMethodInvocation(MethodInvocationTree tree, Void nothing) {
            ExpressionTree called = tree.getMethodSelect();
            if (called instanceof IdentifierTree own) {
                note(inside + "." + own.getName());
            } else if (called instanceof MemberSelectTree other) {
                String name = other.getIdentifier().toString();
                String whole = other.toString();
                if (!LIBRARY.contains(whole)) {
                    note(owner(other.getExpression().toString()) + "." + name);
                }
            }
            return super.visitMethodInvocation(tree, nothing);
        }

        private void note(String callee) {
            if (method != null) {
                calls.get(inside + "." + method.getName()).add(callee);
            }
        }

        /** Which class a thing is of, by the plain names that the source gives its things; "?" of none of these. */
        private static String owner(String thing) {
            String last = thing.substring(thing.lastIndexOf('.') + 1);
            return switch (last) {
                case "tape", "paper", "text", "name" -> "Text";
                case "book", "kept" -> "Book";
                case "now", "thought", "world" -> "World";
                case "folk", "Folk" -> "Folk";
                case "ranges", "Ranges" -> "Ranges";
                case "reader", "Reader" -> "Reader";
                case "ways" -> "Ways";
                case "lists" -> "Lists";
                case "Titles" -> "Titles";
                default -> "?" + thing;
            };
        }
    }
}
