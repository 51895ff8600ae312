import java.lang.reflect.Constructor;
import java.lang.reflect.Field;
import java.lang.reflect.Method;
import java.lang.reflect.Modifier;
import java.util.TreeMap;

/** The public face, and that no more of the class is to be seen. */
public final class FaceTest {
    private static final Check CHECK = new Check();
    private static final String CALLS = "feed1 end1 text0 fault0 rule1 bead2 many2 row2 words2 word2 tell1 tear0 spoken0 "
        + "said1 add0 string1 off1 plan1 mistake1 paint3 dye2 change2 swap2 mode1 draw4 keep1 back1 sheet3 lay3 run4 "
        + "torn0 count1";

    public static void main(String[] args) {
        constants();
        members();
        CHECK.end();
    }

    private static void constants() {
        CHECK.due("BAD", BeadWords.BAD, -1);
        CHECK.due("STATE", BeadWords.STATE, -2);
        CHECK.due("FULL", BeadWords.FULL, -3);
        CHECK.due("NONE", BeadWords.NONE, -4);
    }

    private static void members() {
        TreeMap<String, Integer> parameters = new TreeMap<>();
        for (String call : CALLS.split(" ")) {
            parameters.put(call.substring(0, call.length() - 1), call.charAt(call.length() - 1) - '0');
        }
        int calls = 0;
        for (Method m : BeadWords.class.getDeclaredMethods()) {
            boolean seen = Modifier.isPublic(m.getModifiers());
            calls += seen ? 1 : 0;
            CHECK.due(m + " is private or of the face", seen || Modifier.isPrivate(m.getModifiers()) ? 1 : 0, 1);
            CHECK.due(m + " bears a name of the face", parameters.containsKey(m.getName()) ? 1 : 0, seen ? 1 : 0);
            if (seen && parameters.containsKey(m.getName())) {
                CHECK.due(m + " has parameters", m.getParameterCount(), parameters.get(m.getName()));
                CHECK.due(m + " answers an int", m.getReturnType() == int.class ? 1 : 0, 1);
            }
        }
        CHECK.due("public calls", calls, parameters.size());
        for (Field f : BeadWords.class.getDeclaredFields()) {
            boolean face = "BAD STATE FULL NONE".contains(f.getName());
            CHECK.due(f + " is public", Modifier.isPublic(f.getModifiers()) ? 1 : 0, face ? 1 : 0);
            CHECK.due(f + " is private", Modifier.isPrivate(f.getModifiers()) ? 1 : 0, face ? 0 : 1);
        }
        Constructor<?>[] makers = BeadWords.class.getDeclaredConstructors();
        CHECK.due("constructors", makers.length, 1);
        CHECK.due("its parameters", makers[0].getParameterCount(), 0);
        for (Class<?> inner : BeadWords.class.getDeclaredClasses()) {
            CHECK.due(inner + " is static", Modifier.isStatic(inner.getModifiers()) ? 1 : 0, 1);
            CHECK.due(inner + " is public", Modifier.isPublic(inner.getModifiers()) ? 1 : 0, 0);
        }
    }
}
