import java.util.List;
import java.util.function.ToIntFunction;

/**
 * Sees that a call is refused and has changed nothing: of two objects made alike one gets the call, the other does
 * not, and both are asked the same. They are made anew for every few questions, as an object has 512 calls only.
 */
final class Refused {
    private Refused() {
    }

    /** A call whose numbers are BAD in each state: also where NOT or FULL would fit. */
    static void bad(String name, ToIntFunction<TermLodgings> call) {
        for (Towns town : Towns.values()) {
            refused(name, town, call, TermLodgings.BAD);
        }
    }

    static void refused(String name, Towns town, ToIntFunction<TermLodgings> call, int due) {
        for (List<Questions.Question> part : Questions.PARTS) {
            sameBehind(name, town, call, due, part);
        }
        sameBehind(name, town, call, due, Questions.laterCalls());
    }

    private static void sameBehind(String name, Towns town, ToIntFunction<TermLodgings> call, int due,
        List<Questions.Question> asked) {
        TermLodgings with = town.made();
        TermLodgings without = town.made();
        Due.due(name + " (" + town + ")", call.applyAsInt(with), due);
        for (Questions.Question question : asked) {
            long got = question.of(with);
            Due.due(name + " (" + town + ") refused, then " + question.call(), got, question.of(without));
        }
    }

    /** Two objects made alike are asked the same, one in the other's reversed order. */
    static void askingChangesNothing(Towns town) {
        for (List<Questions.Question> part : Questions.PARTS) {
            TermLodgings forth = town.made();
            TermLodgings back = town.made();
            long[] due = new long[part.size()];
            for (int i = 0; i < due.length; i++) {
                due[i] = part.get(i).of(forth);
            }
            for (int i = due.length - 1; i >= 0; i--) {
                Due.due(town + ", asked in reverse: " + part.get(i).call(), part.get(i).of(back), due[i]);
            }
            Due.due(town + ", asked much: digest()", forth.digest(), town.made().digest());
        }
    }
}
