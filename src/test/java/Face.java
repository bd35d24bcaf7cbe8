import java.lang.reflect.Constructor;
import java.lang.reflect.Field;
import java.lang.reflect.Method;
import java.lang.reflect.Modifier;
import java.util.Set;
import java.util.TreeSet;

/** The public face is the document's, and nothing else can be seen from outside. */
public final class Face {
    private static final Set<String> METHODS = Set.of("feed5", "end1", "town0", "rule0", "charter1", "holds3",
            "person2", "trust2", "say4", "would4", "meet2", "hour0", "midnight0", "undo0", "run2", "breach1",
            "tellers1", "leastLie3", "evening0", "walls3", "leak2", "stated3", "truths1", "ask1", "tale2",
            "schedules3", "seed1", "years3", "count1", "image1", "back1");

    public static void main(String[] args) {
        int wrong = 0;
        Set<String> seen = new TreeSet<>();
        for (Method m : DailyLie.class.getDeclaredMethods()) {
            if (Modifier.isPublic(m.getModifiers()) && m.getReturnType() == int.class) {
                seen.add(m.getName() + m.getParameterCount());
            } else if (!Modifier.isPrivate(m.getModifiers())) {
                wrong += tell("method " + m);
            }
        }
        wrong += seen.equals(METHODS) ? 0 : tell("methods " + seen);
        for (Field f : DailyLie.class.getDeclaredFields()) {
            boolean none = f.getName().equals("NONE") && Modifier.isPublic(f.getModifiers());
            wrong += none || Modifier.isPrivate(f.getModifiers()) ? 0 : tell("field " + f);
        }
        for (Constructor<?> c : DailyLie.class.getDeclaredConstructors()) {
            boolean due = Modifier.isPublic(c.getModifiers()) && c.getParameterCount() == 0;
            wrong += due ? 0 : tell("constructor " + c);
        }
        for (Class<?> c : DailyLie.class.getDeclaredClasses()) {
            boolean due = Modifier.isStatic(c.getModifiers()) && !Modifier.isPublic(c.getModifiers());
            wrong += due ? 0 : tell("class " + c);
        }
        wrong += Modifier.isFinal(DailyLie.class.getModifiers()) ? 0 : tell("the class is not final");
        System.out.println("face: " + wrong + " faults");
        System.exit(wrong == 0 ? 0 : 1);
    }

    private static int tell(String what) {
        System.out.println("not the document's face: " + what);
        return 1;
    }
}
