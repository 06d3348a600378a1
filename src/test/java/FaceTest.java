import java.io.IOException;
import java.lang.reflect.Constructor;
import java.lang.reflect.Field;
import java.lang.reflect.Method;
import java.lang.reflect.Modifier;
import java.nio.file.Files;
import java.nio.file.Path;
import java.util.Arrays;
import java.util.List;
import java.util.TreeSet;
import java.util.regex.Matcher;
import java.util.regex.Pattern;

/** The public face, and what of LANGUAGE.md can be seen without reading closely. */
public final class FaceTest {
    private static final Check check = new Check("FaceTest");
    private static final String[] FACE = {
        "int letter(int)", "int blank()", "int fault()", "int air()", "int open(int,int,int,int,int)", "int close(int)",
        "int feed(int,int,int)", "int bundle(int)", "int expire(int)", "int deliver(int,int)", "int lose(int)",
        "int pass(int)", "int about(int)", "int near(int,int)", "int given(int,int,int)", "int far(int,int)",
        "int held(int,int)", "int as(int,int)", "int released(int,int)", "int under(int,int)", "int frame(int,int,int)",
        "int count(int)", "long digest()"};

    public static void main(String[] args) throws IOException {
        members();
        classesInside();
        words();
        check.end();
    }

    private static void members() {
        Class<?> c = BoundFrames.class;
        check.holds("public and final", Modifier.isPublic(c.getModifiers()) && Modifier.isFinal(c.getModifiers()));
        TreeSet<String> got = new TreeSet<>();
        TreeSet<String> publicNames = new TreeSet<>();
        TreeSet<String> privateNames = new TreeSet<>();
        for (Method m : c.getDeclaredMethods()) {
            if (Modifier.isPrivate(m.getModifiers())) {
                privateNames.add(m.getName());
                continue;
            }
            publicNames.add(m.getName());
            check.holds("public " + m, Modifier.isPublic(m.getModifiers()) && !Modifier.isStatic(m.getModifiers()));
            String types = Arrays.toString(m.getParameterTypes()).replace("[", "(").replace("]", ")").replace(" ", "");
            got.add(m.getReturnType() + " " + m.getName() + types);
        }
        check.holds("the methods of the face: " + got, got.equals(new TreeSet<>(Arrays.asList(FACE))));
        privateNames.retainAll(publicNames);
        check.holds("no private method with a public one's name: " + privateNames, privateNames.isEmpty());
        Constructor<?>[] made = c.getDeclaredConstructors();
        check.holds("one constructor", made.length == 1 && made[0].getParameterCount() == 0
                && Modifier.isPublic(made[0].getModifiers()));
        TreeSet<String> constants = new TreeSet<>();
        for (Field f : c.getDeclaredFields()) {
            if (!Modifier.isPrivate(f.getModifiers())) {
                constants.add(f.getName());
                check.holds("a constant: " + f, f.getType() == int.class
                        && f.getModifiers() == (Modifier.PUBLIC | Modifier.STATIC | Modifier.FINAL));
            }
        }
        check.holds("the constants of the face: " + constants,
                constants.equals(new TreeSet<>(List.of("NONE", "UNKNOWN", "OUTSIDE", "STATE", "FULL"))));
        check.due("NONE", BoundFrames.NONE, -1);
        check.due("UNKNOWN", BoundFrames.UNKNOWN, -101);
        check.due("OUTSIDE", BoundFrames.OUTSIDE, -102);
        check.due("STATE", BoundFrames.STATE, -103);
        check.due("FULL", BoundFrames.FULL, -104);
    }

    private static void classesInside() {
        Class<?>[] inside = BoundFrames.class.getDeclaredClasses();
        check.holds("some twelve classes", inside.length <= 11);
        for (Class<?> c : inside) {
            check.holds("static and not public: " + c, Modifier.isStatic(c.getModifiers())
                    && !Modifier.isPublic(c.getModifiers()) && !Modifier.isProtected(c.getModifiers()));
            int fields = 0;
            for (Field f : c.getDeclaredFields()) {
                boolean isStatic = Modifier.isStatic(f.getModifiers());
                fields += isStatic ? 0 : 1;
                check.holds("static fields are final: " + f, !isStatic || Modifier.isFinal(f.getModifiers()));
            }
            check.holds("some twenty fields: " + c, fields <= 20);
        }
    }

    private static void words() throws IOException {
        String text = Files.readString(Path.of("src/main/java/BoundFrames.java"));
        String code = text.replaceAll("(?s)/\\*.*?\\*/", "").replaceAll("//[^\n]*", "");
        String banned = "\\b(import|package|throw|throws|try|catch|finally|synchronized|assert|Exact|System|Object|"
                + "hashCode|toString|volatile|native|double|float|yield|var)\\b|->|::";
        Matcher m = Pattern.compile(banned).matcher(code);
        while (m.find()) {
            check.holds("no " + m.group() + " in the program", false);
        }
        check.holds("signs 1 to 127", text.chars().allMatch(sign -> sign > 0 && sign < 128));
        check.holds("no loop without a counter", !Pattern.compile("\\b(while|do)\\b").matcher(code).find());
    }
}
