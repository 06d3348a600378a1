import com.sun.source.tree.Tree;
import java.io.IOException;
import java.lang.reflect.Array;
import java.lang.reflect.Field;
import java.lang.reflect.Modifier;
import java.nio.file.Path;
import java.util.Collections;
import java.util.IdentityHashMap;
import java.util.Map;
import java.util.Set;
import javax.tools.JavaCompiler;
import javax.tools.ToolProvider;

/** Rules of LANGUAGE.md that can be counted: how deep calls go, how long methods are, what is made, how much room it takes. */
public final class LanguageTest {
    private static final Check check = new Check("LanguageTest");
    private static final Path PROGRAM = Path.of("src/main/java/BoundFrames.java");
    private static final int DEEPEST = 8;
    private static final int LONGEST = 60;
    private static final int MOST_PARAMETERS = 7;
    /** Kinds of code that the rules leave out (2, 3, 4, 6). */
    private static final Tree.Kind[] LEFT_OUT = {
        Tree.Kind.THROW, Tree.Kind.TRY, Tree.Kind.CATCH, Tree.Kind.SYNCHRONIZED, Tree.Kind.ASSERT,
        Tree.Kind.LAMBDA_EXPRESSION, Tree.Kind.MEMBER_REFERENCE, Tree.Kind.PACKAGE};

    public static void main(String[] args) throws IOException, IllegalAccessException {
        JavaCompiler compiler = ToolProvider.getSystemJavaCompiler();
        if (compiler == null) {
            System.out.println("LanguageTest: this java brings no compiler, the source is not read");
        } else {
            Source source = Source.read(compiler, PROGRAM);
            depths(source);
            methods(source);
            makers(source);
            kinds(source);
        }
        room();
        noCallMakesRoom();
        check.end();
    }

    /** Rules 8 and 11. */
    private static void depths(Source source) {
        check.due("public methods", source.publicMethods.size(), 24);
        int deepest = 0;
        for (String method : source.calls.keySet()) {
            int depth = source.depth(method, 2 * DEEPEST);
            check.holds(method + " goes " + depth + " deep", depth <= DEEPEST);
            deepest = Math.max(deepest, depth);
        }
        check.holds("calls were seen: " + deepest, deepest >= 4);
    }

    /** Rule 11. */
    private static void methods(Source source) {
        source.lines.forEach((method, lines) -> check.holds(method + " has " + lines + " lines", lines <= LONGEST));
        source.parameters.forEach((method, many) -> check.holds(method + " has " + many + " parameters",
                many <= MOST_PARAMETERS));
    }

    /** Rule 12, and what the README says beyond it: all that is made is made in constructors. Rule 4: the library. */
    private static void makers(Source source) {
        for (String method : source.makers) {
            check.holds(method + " makes an object", method.endsWith(".<init>"));
        }
        for (String function : source.library) {
            check.holds("of the library: " + function, function.matches("(Math|Integer|Long)\\..*(?<!Exact)"));
        }
    }

    private static void kinds(Source source) {
        check.holds("code was seen", source.kinds.contains(Tree.Kind.FOR_LOOP));
        for (Tree.Kind kind : LEFT_OUT) {
            check.holds("no " + kind, !source.kinds.contains(kind));
        }
    }

    // ---- the room

    private static final class Room {
        final Map<Object, Boolean> met = new IdentityHashMap<>();
        int elements = 0;

        void walk(Object object) throws IllegalAccessException {
            if (object == null || met.put(object, true) != null) {
                return;
            }
            Class<?> type = object.getClass();
            if (type.isArray()) {
                elements += Array.getLength(object);
                for (int i = 0; i < Array.getLength(object) && !type.getComponentType().isPrimitive(); i++) {
                    walk(Array.get(object, i));
                }
                return;
            }
            for (Field field : type.getDeclaredFields()) {
                if (!Modifier.isStatic(field.getModifiers())) {
                    elements++;
                    field.setAccessible(true);
                    if (!field.getType().isPrimitive()) {
                        walk(field.get(object));
                    }
                }
            }
        }

        Set<Object> objects() {
            Set<Object> all = Collections.newSetFromMap(new IdentityHashMap<>());
            all.addAll(met.keySet());
            return all;
        }
    }

    private static Room roomOf(BoundFrames x) throws IllegalAccessException {
        Room room = new Room();
        room.walk(x);
        return room;
    }

    /** 600,000 objects and 7.3 million elements are for all objects of a run: one takes less than a thousandth. */
    private static void room() throws IllegalAccessException {
        Room room = roomOf(new BoundFrames());
        check.holds(room.met.size() + " objects", room.met.size() <= 150);
        check.holds(room.elements + " fields and elements", room.elements <= 1500);
    }

    /** Behind a run of calls the object is made of the very objects that it was made of. */
    private static void noCallMakesRoom() throws IllegalAccessException {
        BoundFrames x = new BoundFrames();
        Set<Object> before = roomOf(x).objects();
        for (int round = 0; round < 2; round++) {
            Scene.write(x, "9+1*9:8");
            x.air();
            for (int of = 0; of < 4; of++) {
                Scene.setUp(x, of, of % 3, 15, 1, 2);
                Scene.feed(x, of, 1, 25, 1);
                Scene.exchange(x, of, 5);
                Scene.exchange(x, of, 0);
            }
            for (int of = 0; of < 4; of++) {
                x.bundle(of);
            }
            check.due("LETTERS under way", x.count(7), 4);
            x.pass(10);
            x.digest();
            x.expire(1);
            x.deliver(0, 255);
        }
        Set<Object> after = roomOf(x).objects();
        check.due("objects behind the calls", after.size(), before.size());
        check.holds("they are the same ones", before.containsAll(after));
    }
}
