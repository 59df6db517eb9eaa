import java.lang.reflect.Constructor;
import java.lang.reflect.Field;
import java.lang.reflect.Method;
import java.lang.reflect.Modifier;
import java.util.Set;
import java.util.TreeSet;

/** The class shows the document's public face and nothing beside it. */
public final class FaceTest {
    private static final Set<String> FACE = Set.of(
            "public ScheduleReducer()",
            "public static final int ScheduleReducer.NONE",
            "public static final int ScheduleReducer.FULL",
            "public int ScheduleReducer.step(int,int,int)",
            "public int ScheduleReducer.drop(int)",
            "public boolean ScheduleReducer.begin(int,int,int)",
            "public int ScheduleReducer.length(int)",
            "public int ScheduleReducer.schedules()",
            "public int ScheduleReducer.classes()",
            "public boolean ScheduleReducer.canStick()",
            "public boolean ScheduleReducer.canEnd(int,int)",
            "public boolean ScheduleReducer.canEndBoth(int,int,int,int)",
            "public int ScheduleReducer.extreme(int,int)",
            "public int ScheduleReducer.accumulator(int,int)",
            "public boolean ScheduleReducer.races(int)");

    public static void main(String[] args) {
        Set<String> shown = new TreeSet<>();
        for (Field field : ScheduleReducer.class.getDeclaredFields()) {
            if (!Modifier.isPrivate(field.getModifiers())) {
                shown.add(field.toString());
            }
        }
        for (Constructor<?> constructor : ScheduleReducer.class.getDeclaredConstructors()) {
            shown.add(constructor.toString());
        }
        for (Method method : ScheduleReducer.class.getDeclaredMethods()) {
            if (!Modifier.isPrivate(method.getModifiers())) {
                shown.add(method.toString());
            }
        }
        int modifiers = ScheduleReducer.class.getModifiers();
        if (!shown.equals(FACE) || modifiers != (Modifier.PUBLIC | Modifier.FINAL)) {
            System.out.println("due is " + new TreeSet<>(FACE));
            System.out.println("shown is " + shown + " of a class that is " + Modifier.toString(modifiers));
            System.exit(1);
        }
        System.out.println("the face is as due");
    }
}
