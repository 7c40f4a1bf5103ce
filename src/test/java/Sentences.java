import java.lang.annotation.ElementType;
import java.lang.annotation.Retention;
import java.lang.annotation.RetentionPolicy;
import java.lang.annotation.Target;
import java.lang.reflect.InvocationTargetException;
import java.lang.reflect.Method;
import java.util.ArrayList;
import java.util.Comparator;
import java.util.List;

/** What the tests by sentence share: the answers, small desks, and a runner that tells which sentence is broken. */
abstract class Sentences {
    static final int NONE = -1, FULL = -2, STATE = -3, NO_WAY = -4, LEFT = -5;
    static final int ROAD = 0, ONEWAY = 1, TUNNEL = 2, TOLLED = 3;

    /** The words of the document that a test holds the desk to. */
    @Retention(RetentionPolicy.RUNTIME)
    @Target(ElementType.METHOD)
    @interface Says {
        String[] value();
    }

    private static int answers = 0;
    private static int wrong = 0;

    static void due(String what, int got, int want) {
        answers++;
        if (got != want) {
            wrong++;
            System.out.println("    " + what + " answered " + got + ", due is " + want);
        }
    }

    static void due(String what, String got, String want) {
        answers++;
        if (!got.equals(want)) {
            wrong++;
            System.out.println("    " + what + " told " + got + ", due is " + want);
        }
    }

    static List<Method> testsOf(Class<?> tests) {
        List<Method> found = new ArrayList<>();
        for (Method method : tests.getDeclaredMethods()) {
            if (method.isAnnotationPresent(Says.class)) {
                found.add(method);
            }
        }
        found.sort(Comparator.comparing(Method::getName));
        return found;
    }

    static void runAll(Class<?> tests) throws IllegalAccessException {
        int broken = 0;
        List<Method> all = testsOf(tests);
        for (Method test : all) {
            if (!holds(test)) {
                broken++;
                System.out.println("BROKEN " + test.getName() + ": "
                    + String.join(" | ", test.getAnnotation(Says.class).value()));
            }
        }
        System.out.println(all.size() - broken + " of " + all.size() + " tests hold, with " + answers + " answers");
        if (broken != 0) {
            System.exit(1);
        }
    }

    private static boolean holds(Method test) throws IllegalAccessException {
        int before = wrong;
        try {
            test.invoke(null);
        } catch (InvocationTargetException thrown) {
            wrong++;
            System.out.println("    threw " + thrown.getCause());
        }
        return wrong == before;
    }

    /**
     * KNOTS 0 (0, 0), 1 (40, 0), 2 (80, 0); a ROAD 0 from 0 to 1 and a ROAD 1 from 1 to 2, each 40 long,
     * so that POINTS 0 .. 4 lie at x 0, 10, .. 40, and 5 .. 9 at x 40, 50, .. 80.
     */
    static RoadTrace line() {
        RoadTrace x = new RoadTrace();
        x.knot(0, 0);
        x.knot(40, 0);
        x.knot(80, 0);
        x.road(1, 40, ROAD, 0);
        x.road(102, 40, ROAD, 0);
        return x;
    }

    /** One ROAD from (0, 0) to (40, 0), POINTS 0 .. 4 at x 0, 10, .. 40. */
    static RoadTrace oneRoad(int length, int kind, int fee) {
        RoadTrace x = new RoadTrace();
        x.knot(0, 0);
        x.knot(40, 0);
        x.road(1, length, kind, fee);
        return x;
    }

    /** Two like ROADS side by side from (0, 0) to (40, 0), each 40 long, so that much costs alike. */
    static RoadTrace twins() {
        RoadTrace x = oneRoad(40, ROAD, 0);
        x.road(1, 40, ROAD, 0);
        return x;
    }

    /** A desk without room for more: 172 calls make 16 KNOTS, 30 ROADS, 6 DRIVES of 20 SIGHTS, each with 10 SPOTS. */
    static RoadTrace fullest() {
        RoadTrace x = new RoadTrace();
        for (int i = 0; i < 16; i++) {
            x.knot(50 + i % 4, 50 + i / 4);
        }
        for (int i = 0; i < 30; i++) {
            x.road(100 * (i % 16) + (i * 7 + 1) % 16, 1 + i % 4, i % 2 == 0 ? ROAD : ONEWAY, 0);
        }
        for (int i = 0; i < 6; i++) {
            x.drive();
        }
        for (int i = 0; i < 120; i++) {
            x.sight(i % 6, 5050 + i % 4 + i / 6 % 4 * 100, 1 + i / 6, 60);
        }
        return x;
    }

    static void tell(RoadTrace x, int... points) {
        for (int i = 0; i < points.length; i++) {
            due("list " + points[i], x.list(points[i]), i + 1);
        }
    }

    /** The SPOTS of a SIGHT as a text. */
    static String spots(RoadTrace x, int drive, int sight) {
        StringBuilder text = new StringBuilder();
        int count = x.spot(drive, sight, -1);
        for (int i = 0; i < count; i++) {
            text.append(i == 0 ? "" : " ").append(x.spot(drive, sight, i));
        }
        return text.toString();
    }

    /** LAID of a DRIVE as a text. */
    static String laid(RoadTrace x, int drive, int sights) {
        StringBuilder text = new StringBuilder();
        for (int i = 0; i < sights; i++) {
            text.append(i == 0 ? "" : " ").append(x.laid(drive, i));
        }
        return text.toString();
    }
}
