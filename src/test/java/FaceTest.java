import java.io.IOException;
import java.lang.reflect.Constructor;
import java.lang.reflect.Field;
import java.lang.reflect.Member;
import java.lang.reflect.Method;
import java.lang.reflect.Modifier;
import java.lang.reflect.Parameter;
import java.nio.file.Files;
import java.nio.file.Path;
import java.util.ArrayList;
import java.util.List;

/** The public face as the document prints it, and that no more of the class is to be seen; compiled with -parameters. */
public final class FaceTest {
    private static final Check CHECK = new Check();
    private static final Class<?> TESTED = BeadWords.class;
    private static final String CONSTANTS = "public static final int ";

    public static void main(String[] args) throws IOException, IllegalAccessException {
        List<String> printed = printed();
        List<String> there = there();
        CHECK.due("lines of the face that the document prints", printed.size(), 1 + 4 + 1 + 32);
        for (String line : printed) {
            CHECK.due("the class has: " + line, there.contains(line) ? 1 : 0, 1);
        }
        for (String line : there) {
            CHECK.due("the document has: " + line, printed.contains(line) ? 1 : 0, 1);
        }
        callsByNumber(printed);
        nothingAboveIt();
        theRestIsPrivate();
        CHECK.end();
    }

    /** The face of the document, a line for each constant, the constructor, and each call, in its order. */
    private static List<String> printed() throws IOException {
        String doc = Files.readString(Path.of("../shared/DOC.md"));
        String block = doc.substring(doc.indexOf("```java\n") + 8);
        List<String> out = new ArrayList<>();
        for (String line : block.substring(0, block.indexOf("```")).split("\n")) {
            String one = line.strip();
            if (one.startsWith(CONSTANTS)) {
                for (String constant : one.substring(CONSTANTS.length(), one.length() - 1).split(", ")) {
                    out.add(CONSTANTS + constant + ";");
                }
            } else if (!one.equals("}")) {
                out.add(one);
            }
        }
        return out;
    }

    /** The same of the class itself. */
    private static List<String> there() throws IllegalAccessException {
        List<String> out = new ArrayList<>();
        out.add(Modifier.toString(TESTED.getModifiers()) + " class " + TESTED.getName() + " {");
        for (Field f : TESTED.getDeclaredFields()) {
            if (!Modifier.isPrivate(f.getModifiers())) {
                out.add(head(f, f.getType()) + " " + f.getName() + " = " + f.get(null) + ";");
            }
        }
        for (Constructor<?> c : TESTED.getDeclaredConstructors()) {
            out.add(Modifier.toString(c.getModifiers()) + " " + TESTED.getName() + listed(c.getParameters()) + ";");
        }
        for (Method m : TESTED.getDeclaredMethods()) {
            if (!Modifier.isPrivate(m.getModifiers())) {
                out.add(head(m, m.getReturnType()) + " " + m.getName() + listed(m.getParameters()) + ";");
                CHECK.due(m + " declares exceptions", m.getExceptionTypes().length, 0);
            }
        }
        return out;
    }

    private static String head(Member member, Class<?> type) {
        return Modifier.toString(member.getModifiers()) + " " + type.getName();
    }

    private static String listed(Parameter[] parameters) {
        List<String> out = new ArrayList<>();
        for (Parameter p : parameters) {
            out.add(p.getType().getName() + " " + p.getName());
        }
        return "(" + String.join(", ", out) + ")";
    }

    /** The other tests ask by these numbers: each call of the document must have one. */
    private static void callsByNumber(List<String> printed) {
        List<String> calls = printed.subList(printed.indexOf("public BeadWords();") + 1, printed.size());
        CHECK.due("calls by number", Face.NAMES.length, calls.size());
        for (int which = 0; which < Face.NAMES.length; which++) {
            String call = calls.get(which);
            CHECK.due(Face.NAMES[which] + " is " + call, call.startsWith("public int " + Face.NAMES[which] + "(") ? 1 : 0, 1);
            CHECK.due("numbers given to " + call, Face.TAKES[which], call.split("int ").length - 2);
        }
    }

    private static void nothingAboveIt() {
        CHECK.due("the class is of another one", TESTED.getSuperclass() == Object.class ? 0 : 1, 0);
        CHECK.due("interfaces", TESTED.getInterfaces().length, 0);
        CHECK.due("the class has a package", TESTED.getPackageName().isEmpty() ? 0 : 1, 0);
    }

    private static void theRestIsPrivate() {
        for (Class<?> inner : TESTED.getDeclaredClasses()) {
            CHECK.due(inner + " is static", Modifier.isStatic(inner.getModifiers()) ? 1 : 0, 1);
            CHECK.due(inner + " is seen", inner.getModifiers() & (Modifier.PUBLIC | Modifier.PROTECTED), 0);
            bearsNoNameOfTheFace(inner);
        }
        for (Method m : TESTED.getDeclaredMethods()) {
            if (Modifier.isPrivate(m.getModifiers())) {
                CHECK.due(m + " bears a name of the face", List.of(Face.NAMES).contains(m.getName()) ? 1 : 0, 0);
            }
        }
    }

    private static void bearsNoNameOfTheFace(Class<?> inner) {
        for (Method m : inner.getDeclaredMethods()) {
            CHECK.due(m + " bears a name of the face", List.of(Face.NAMES).contains(m.getName()) ? 1 : 0, 0);
        }
    }
}
