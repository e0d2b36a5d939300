import java.lang.reflect.Constructor;
import java.lang.reflect.Field;
import java.lang.reflect.Method;
import java.lang.reflect.Modifier;
import java.util.TreeSet;

/** The class shows just the public face of the document, and nothing else is visible outside it. */
public final class FaceTest {
    private static final String[] FACE = {
        "public static final int BAD_REGION = -1", "public static final int BAD_KIND = -2",
        "public static final int NONE = -3",
        "public static final int UNION = 0", "public static final int INTERSECT = 1",
        "public static final int SUBTRACT = 2", "public static final int XOR = 3",
        "public static final int OUT = 0", "public static final int PART = 1", "public static final int IN = 2",
        "public BandRegion()",
        "public int BandRegion.box(int,int,int,int)", "public int BandRegion.combine(int,int,int,int)",
        "public int BandRegion.move(int,int,int)", "public int BandRegion.invert(int)",
        "public int BandRegion.area(int)", "public boolean BandRegion.has(int,int,int)",
        "public int BandRegion.rectangles(int)", "public int BandRegion.rectangle(int,int)",
        "public int BandRegion.around(int)", "public boolean BandRegion.same(int,int)",
        "public int BandRegion.covers(int,int,int)",
    };

    private static boolean hidden(int modifiers) {
        return Modifier.isPrivate(modifiers);
    }

    public static void main(String[] args) throws IllegalAccessException {
        TreeSet<String> seen = new TreeSet<>();
        for (Field field : BandRegion.class.getDeclaredFields()) {
            if (!hidden(field.getModifiers())) {
                boolean constant = Modifier.isStatic(field.getModifiers()) && field.getType() == int.class;
                String value = constant ? " = " + field.getInt(null) : "";
                seen.add(Modifier.toString(field.getModifiers()) + " " + field.getType() + " " + field.getName() + value);
            }
        }
        for (Constructor<?> made : BandRegion.class.getDeclaredConstructors()) {
            if (!hidden(made.getModifiers())) {
                seen.add(made.toString());
            }
        }
        for (Method method : BandRegion.class.getDeclaredMethods()) {
            if (!hidden(method.getModifiers())) {
                seen.add(method.toString());
            }
        }
        TreeSet<String> due = new TreeSet<>(java.util.List.of(FACE));
        boolean right = seen.equals(due) && Modifier.toString(BandRegion.class.getModifiers()).equals("public final");
        if (!right) {
            System.out.println("the face is " + seen + ", due is " + due + " in a public final class");
        }
        System.exit(right ? 0 : 1);
    }
}
