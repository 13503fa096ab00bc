import java.lang.reflect.InvocationTargetException;
import java.lang.reflect.Method;
import java.lang.reflect.Modifier;
import java.util.Arrays;
import java.util.Comparator;

/** Compares answers with those that are due, tells the wrong ones, and ends the program with 1 if there was one. */
final class Due {
    private static int wrong = 0;

    private Due() {
    }

    static void due(String call, long got, long want) {
        if (got != want) {
            wrong++;
            System.out.println(call + " answered " + got + ", due is " + want);
        }
    }

    static void finish() {
        System.out.println(wrong == 0 ? "all answers are as due" : wrong + " answers are not as due");
        if (wrong != 0) {
            System.exit(1);
        }
    }

    /** Runs each test of a class, which are its static methods that take and answer nothing, and finishes. */
    static void runAll(Class<?> tests) throws IllegalAccessException {
        Method[] methods = tests.getDeclaredMethods();
        Arrays.sort(methods, Comparator.comparing(Method::getName));
        int ran = 0;
        for (Method method : methods) {
            if (isTest(method)) {
                run(method);
                ran++;
            }
        }
        System.out.println(ran + " tests of " + tests.getName());
        due("whether " + tests.getName() + " has tests", ran > 0 ? 1 : 0, 1);
        finish();
    }

    private static boolean isTest(Method method) {
        boolean bare = method.getParameterCount() == 0 && method.getReturnType() == void.class;
        return bare && Modifier.isStatic(method.getModifiers()) && !method.isSynthetic();
    }

    private static void run(Method method) throws IllegalAccessException {
        try {
            method.invoke(null);
        } catch (InvocationTargetException e) {
            wrong++;
            System.out.println(method.getName() + " ended with " + e.getCause());
        }
    }

    /** Types a text behind THE STATUTE. */
    static void typeAll(TermLodgings x, String text) {
        for (int i = 0; i < text.length(); i++) {
            x.type(text.charAt(i));
        }
    }

    /** Puts a text in the place of THE STATUTE. */
    static void enact(TermLodgings x, String text) {
        x.repeal();
        typeAll(x, text);
    }

    /** An object with ROOMS of these HOUSES (MILES 0, SORT 0) and so many PEOPLE (YEAR 1, no GROUP). */
    static TermLodgings town(int people, int... houses) {
        TermLodgings x = new TermLodgings();
        for (int house : houses) {
            x.room(house, 0, 0);
        }
        for (int p = 0; p < people; p++) {
            x.person(1, TermLodgings.NONE);
        }
        return x;
    }

    /** One's WISHES become these. */
    static void wishes(TermLodgings x, int person, int... rooms) {
        x.content(person);
        for (int room : rooms) {
            x.wish(person, room);
        }
    }

    /** TURNS are these and no more. */
    static void turns(String call, TermLodgings x, int... people) {
        for (int i = 0; i < people.length; i++) {
            due(call + ": turn(" + i + ")", x.turn(i), people[i]);
        }
        due(call + ": turn(" + people.length + ")", x.turn(people.length), TermLodgings.BAD);
    }

    /** Of the latest TRADES: rings, the longest one, rounds. */
    static void traded(String call, TermLodgings x, int rings, int longest, int rounds) {
        due(call + ": traded(0)", x.traded(0), rings);
        due(call + ": traded(1)", x.traded(1), longest);
        due(call + ": traded(2)", x.traded(2), rounds);
    }

    /** The ROOMS of PEOPLE 0, 1 .. are these. */
    static void lodgings(String call, TermLodgings x, int... rooms) {
        for (int p = 0; p < rooms.length; p++) {
            due(call + ": about(" + p + ", 3)", x.about(p, 3), rooms[p]);
        }
    }
}
