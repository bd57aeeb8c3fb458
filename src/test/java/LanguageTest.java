import com.sun.source.tree.*;
import com.sun.source.util.*;
import java.lang.reflect.*;
import java.util.*;
import javax.tools.*;

/** The rules of LANGUAGE.md that can be seen in the source's tree or in the class. */
public final class LanguageTest {
    private static final String SOURCE = "src/main/java/MailSessions.java";
    private static final Set<String> FACE = Set.of(
        "create(int)", "remove(int)", "append(int,int,int)", "status(int,int)", "counting(int,int)", "changedSince(int,int,int)",
        "vanished(int,int)", "select(int,int)", "leave(int)", "length(int)", "numberAt(int,int)", "placeOf(int,int)",
        "fetch(int,int,int)", "store(int,int,int)", "expunge(int)", "poll(int)", "copy(int,int,int)", "search(int,int,int,int)",
        "appendAndCrash(int,int,int)", "crash()", "idle(int,int)", "faults()");
    private static final Set<String> CONSTANTS = Set.of("BAD", "NONE", "FULL", "GONE", "EXISTS");
    private static final Set<String> TYPES = Set.of("int", "long", "short", "byte", "char", "boolean");
    private static final Set<Tree.Kind> RULED_OUT = EnumSet.of(
        Tree.Kind.THROW, Tree.Kind.TRY, Tree.Kind.CATCH, Tree.Kind.SYNCHRONIZED, Tree.Kind.ASSERT, Tree.Kind.INSTANCE_OF,
        Tree.Kind.LAMBDA_EXPRESSION, Tree.Kind.MEMBER_REFERENCE, Tree.Kind.NEW_CLASS, Tree.Kind.IMPORT, Tree.Kind.PACKAGE,
        Tree.Kind.STRING_LITERAL, Tree.Kind.NULL_LITERAL, Tree.Kind.FLOAT_LITERAL, Tree.Kind.DOUBLE_LITERAL, Tree.Kind.INTERFACE,
        Tree.Kind.ENUM, Tree.Kind.RECORD, Tree.Kind.ANNOTATION, Tree.Kind.MEMBER_SELECT,
        // The language would let while and do be; without them, the end of every loop is one line to look at.
        Tree.Kind.WHILE_LOOP, Tree.Kind.DO_WHILE_LOOP, Tree.Kind.ENHANCED_FOR_LOOP);

    private final Map<String, Set<String>> callsOf = new TreeMap<>();
    private CompilationUnitTree unit;
    private SourcePositions positions;

    private LanguageTest() {
    }

    public static void main(String[] args) throws Exception {
        face();
        new LanguageTest().source();
        Due.end();
    }

    private static void face() {
        Class<MailSessions> type = MailSessions.class;
        Due.is("modifiers of the class", type.getModifiers(), Modifier.PUBLIC | Modifier.FINAL);
        Due.is("nested classes", type.getDeclaredClasses().length, 0);
        Due.is("constructors", type.getDeclaredConstructors().length, 1);
        Due.holds("the constructor is public", Modifier.isPublic(type.getDeclaredConstructors()[0].getModifiers()));
        Set<String> open = new TreeSet<>();
        Set<String> names = new HashSet<>();
        for (Method method : type.getDeclaredMethods()) {
            if (Modifier.isPrivate(method.getModifiers())) continue;
            String line = method.toString();
            open.add(line.substring(line.indexOf("MailSessions.") + "MailSessions.".length()));
            names.add(method.getName());
            Due.is("modifiers of " + line, method.getModifiers(), Modifier.PUBLIC);
            Due.holds("type of " + line, method.getReturnType() == (method.getName().equals("idle") ? void.class : int.class));
        }
        Due.holds("the public methods are those of the face: " + open, open.equals(FACE));
        for (Method method : type.getDeclaredMethods()) {
            if (Modifier.isPrivate(method.getModifiers())) Due.holds("private " + method.getName(), !names.contains(method.getName()));
        }
        int fields = 0;
        Set<String> openFields = new TreeSet<>();
        for (Field field : type.getDeclaredFields()) {
            if (!Modifier.isPrivate(field.getModifiers())) openFields.add(field.getName());
            if (!Modifier.isStatic(field.getModifiers())) fields++;
        }
        Due.holds("the public fields are those of the face: " + openFields, openFields.equals(CONSTANTS));
        Due.holds("at most forty fields", fields <= 40);
    }

    private void source() throws Exception {
        JavaCompiler compiler = ToolProvider.getSystemJavaCompiler();
        StandardJavaFileManager files = compiler.getStandardFileManager(null, null, null);
        JavacTask task = (JavacTask) compiler.getTask(null, files, null, List.of("-proc:none"), null, files.getJavaFileObjects(SOURCE));
        unit = task.parse().iterator().next();
        positions = Trees.instance(task).getSourcePositions();
        new Rules().scan(unit, null);
        for (String method : callsOf.keySet()) {
            // Neither the library's methods nor those that every object has can be called then.
            Due.holds(method + " calls only methods of the class", callsOf.keySet().containsAll(callsOf.get(method)));
            Due.holds("calls of " + method + " go at most six deep, without recursion", depth(method, 0) <= 6);
        }
    }

    private int depth(String method, int above) {
        if (above > 6) return above;
        int deepest = above;
        for (String called : callsOf.getOrDefault(method, Set.of())) {
            deepest = Math.max(deepest, depth(called, above + 1));
        }
        return deepest;
    }

    private long lineOf(long position) {
        return unit.getLineMap().getLineNumber(position);
    }

    private final class Rules extends TreeScanner<Void, Void> {
        private String method = null;
        private boolean inArguments = false;

        @Override
        public Void scan(Tree tree, Void nothing) {
            if (tree != null) {
                long line = lineOf(positions.getStartPosition(unit, tree));
                Due.holds("line " + line + ": " + tree.getKind(), !RULED_OUT.contains(tree.getKind()));
            }
            return super.scan(tree, nothing);
        }

        @Override
        public Void visitMethod(MethodTree tree, Void nothing) {
            method = tree.getName().toString();
            long first = lineOf(positions.getStartPosition(unit, tree));
            long last = lineOf(positions.getEndPosition(unit, tree));
            Due.holds(method + " has at most sixty lines", last - first < 60);
            Due.holds(method + " has at most seven parameters", tree.getParameters().size() <= 7);
            Due.holds(method + " is not overloaded", callsOf.put(method, new TreeSet<>()) == null);
            super.visitMethod(tree, nothing);
            method = null;
            return null;
        }

        @Override
        public Void visitVariable(VariableTree tree, Void nothing) {
            String type = tree.getType().toString();
            String of = type.endsWith("[]") ? type.substring(0, type.length() - 2) : type;
            Due.holds("type of " + tree.getName(), TYPES.contains(of));
            boolean isStatic = tree.getModifiers().getFlags().contains(javax.lang.model.element.Modifier.STATIC);
            boolean isFinal = tree.getModifiers().getFlags().contains(javax.lang.model.element.Modifier.FINAL);
            if (isStatic) {
                Due.holds("static " + tree.getName() + " is int or long", type.equals("int") || type.equals("long"));
                Due.holds("static " + tree.getName() + " is a constant", isFinal && tree.getInitializer() != null);
            } else if (method == null && type.endsWith("[]")) {
                Due.holds("the array " + tree.getName() + " is made once", isFinal && tree.getInitializer() != null);
            }
            return super.visitVariable(tree, nothing);
        }

        @Override
        public Void visitForLoop(ForLoopTree tree, Void nothing) {
            long line = lineOf(positions.getStartPosition(unit, tree));
            Due.holds("line " + line + ": the loop counts up one counter", tree.getUpdate().size() == 1
                && tree.getUpdate().get(0).getExpression().getKind() == Tree.Kind.POSTFIX_INCREMENT);
            Tree.Kind end = tree.getCondition() == null ? null : tree.getCondition().getKind();
            Due.holds("line " + line + ": against a bound", end == Tree.Kind.LESS_THAN || end == Tree.Kind.LESS_THAN_EQUAL);
            return super.visitForLoop(tree, nothing);
        }

        @Override
        public Void visitBinary(BinaryTree tree, Void nothing) {
            boolean divides = tree.getKind() == Tree.Kind.DIVIDE || tree.getKind() == Tree.Kind.REMAINDER;
            Due.holds("the divisor of " + tree + " is a constant that is not 0",
                !divides || tree.getRightOperand().toString().equals("FLAG_SETS"));
            return super.visitBinary(tree, nothing);
        }

        @Override
        public Void visitNewArray(NewArrayTree tree, Void nothing) {
            Due.holds("an array is made in a field's initialiser", method == null && tree.getInitializers() == null);
            return super.visitNewArray(tree, nothing);
        }

        @Override
        public Void visitMethodInvocation(MethodInvocationTree tree, Void nothing) {
            String called = tree.getMethodSelect().toString();
            Due.holds(called + " is not called in the arguments of a call", !inArguments);
            if (method != null && !called.equals("super")) callsOf.get(method).add(called);
            scan(tree.getMethodSelect(), nothing);
            boolean outside = inArguments;
            inArguments = true;
            scan(tree.getArguments(), nothing);
            inArguments = outside;
            return null;
        }
    }
}
