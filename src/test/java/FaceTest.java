import java.lang.reflect.Constructor;
import java.lang.reflect.Field;
import java.lang.reflect.Method;
import java.lang.reflect.Modifier;
import java.util.Arrays;
import java.util.Set;
import java.util.TreeSet;

/** The public face: what the document lists is there, and nothing else can be seen from outside. */
public final class FaceTest {
    private static final String[] METHODS = {
        "street(int, int)", "move(int, int)", "walk(int, int, int)", "close(int, int, int)",
        "rule(int, int, int)", "hours(int, int, int, int)", "car(int)",
        "permit(int, int, int, boolean)", "cards(int, int, int)", "limit(int, int)", "late(int)",
        "may(int, int, int)", "stands(int, int, int, boolean)", "told(int, int, int, boolean)",
        "keep(int, int)", "moved(int, int, int, int, int)", "gain(int, int)", "fine(int)",
        "turn(int, int)", "stake(int)", "ticket(int, int, int, int)", "of(int, int)", "many(int)",
    };

    public static void main(String[] args) {
        Due d = new Due("FaceTest");
        constants(d);
        members(d);
        methods(d);
        newObject(d);
        d.end();
    }

    private static void constants(Due d) {
        d.due("NUMBER", ParkDesk.NUMBER, -1);
        d.due("FULL", ParkDesk.FULL, -2);
        d.due("NONE", ParkDesk.NONE, -3);
    }

    private static void members(Due d) {
        int face = Modifier.PUBLIC | Modifier.FINAL;
        d.holds("class is public final", (ParkDesk.class.getModifiers() & face) == face);
        Set<String> seen = new TreeSet<>();
        for (Field f : ParkDesk.class.getDeclaredFields()) {
            if (!Modifier.isPrivate(f.getModifiers())) {
                seen.add(f.getName());
                int constant = Modifier.PUBLIC | Modifier.STATIC | Modifier.FINAL;
                d.due("modifiers of " + f.getName(), f.getModifiers(), constant);
            }
        }
        d.holds("visible fields are " + seen, seen.equals(Set.of("NUMBER", "FULL", "NONE")));
        Constructor<?>[] made = ParkDesk.class.getDeclaredConstructors();
        d.due("constructors", made.length, 1);
        d.due("modifiers of the constructor", made[0].getModifiers(), Modifier.PUBLIC);
        d.due("parameters of the constructor", made[0].getParameterCount(), 0);
        for (Class<?> c : ParkDesk.class.getDeclaredClasses()) {
            int m = c.getModifiers();
            d.holds(c + " is static and not public",
                Modifier.isStatic(m) && !Modifier.isPublic(m) && !Modifier.isProtected(m));
        }
    }

    private static void methods(Due d) {
        Set<String> seen = new TreeSet<>();
        Set<String> hidden = new TreeSet<>();
        Set<String> names = new TreeSet<>();
        for (Method m : ParkDesk.class.getDeclaredMethods()) {
            if (Modifier.isPrivate(m.getModifiers()) || m.isSynthetic()) {
                hidden.add(m.getName());
                continue;
            }
            d.due("modifiers of " + m, m.getModifiers(), Modifier.PUBLIC);
            d.holds(m + " answers int", m.getReturnType() == int.class);
            names.add(m.getName());
            String types = Arrays.toString(m.getParameterTypes());
            seen.add(m.getName() + "(" + types.substring(1, types.length() - 1) + ")");
        }
        Set<String> want = new TreeSet<>(Arrays.asList(METHODS));
        d.holds("visible methods are " + seen, seen.equals(want));
        hidden.retainAll(names);
        d.holds("private methods with public names: " + hidden, hidden.isEmpty());
    }

    private static void newObject(Due d) {
        ParkDesk x = new ParkDesk();
        for (int what = 0; what <= 7; what++) {
            d.due("new: many(" + what + ")", x.many(what), 0);
        }
        d.due("new: move(0, 0)", x.move(0, 0), -1);
        d.due("new: late(0)", x.late(0), -1);
        d.due("new: of(0, 0)", x.of(0, 0), -1);
        for (int zone = 0; zone < 4; zone++) {
            d.due("new: street", x.street(zone, 1), zone);
        }
        d.due("new: car", x.car(0), 0);
        for (int zone = 0; zone < 4; zone++) {
            for (int hour = 0; hour < 24; hour++) {
                d.due("new: may(0, " + zone + ", " + hour + ")", x.may(0, zone, hour), 2);
            }
        }
        ParkDesk other = new ParkDesk();
        d.due("an object knows nothing of another", other.many(0), 0);
    }
}
