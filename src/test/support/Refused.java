import java.util.ArrayList;
import java.util.List;
import java.util.function.ToIntFunction;
import java.util.function.ToLongFunction;

/**
 * Sees that a call is refused and has changed nothing: of two objects made alike one gets the call, the other does
 * not, and both are asked the same. They are made anew for every few questions, as an object has 512 calls only.
 */
final class Refused {
    private static final int MOST_QUESTIONS = 180;
    private static final List<List<Question>> QUESTIONS = questions();

    private record Question(String call, ToLongFunction<TermLodgings> asked) {
    }

    private Refused() {
    }

    /** A call whose numbers are BAD in each state: also where NOT or FULL would fit. */
    static void bad(String name, ToIntFunction<TermLodgings> call) {
        for (Towns town : Towns.values()) {
            refused(name, town, call, TermLodgings.BAD);
        }
    }

    static void refused(String name, Towns town, ToIntFunction<TermLodgings> call, int due) {
        for (List<Question> some : QUESTIONS) {
            TermLodgings with = town.made();
            TermLodgings without = town.made();
            Due.due(name + " (" + town + ")", call.applyAsInt(with), due);
            for (Question question : some) {
                long got = question.asked.applyAsLong(with);
                long before = question.asked.applyAsLong(without);
                Due.due(name + " (" + town + ") refused, then " + question.call, got, before);
            }
        }
    }

    /** Two objects made alike are asked the same, one in the other's reversed order. */
    static void askingChangesNothing(Towns town) {
        for (List<Question> some : QUESTIONS.subList(0, QUESTIONS.size() - 1)) {
            TermLodgings forth = town.made();
            TermLodgings back = town.made();
            long[] due = new long[some.size()];
            for (int i = 0; i < due.length; i++) {
                due[i] = some.get(i).asked.applyAsLong(forth);
            }
            for (int i = due.length - 1; i >= 0; i--) {
                Due.due(town + ", asked in reverse: " + some.get(i).call, some.get(i).asked.applyAsLong(back), due[i]);
            }
            Due.due(town + ", asked much: digest()", forth.digest(), town.made().digest());
        }
    }

    private static List<List<Question>> questions() {
        List<Question> all = new ArrayList<>();
        wholes(all);
        ofPeople(all);
        ofRooms(all);
        ofNights(all);
        List<List<Question>> parts = new ArrayList<>();
        for (int from = 0; from < all.size(); from += MOST_QUESTIONS) {
            parts.add(all.subList(from, Math.min(all.size(), from + MOST_QUESTIONS)));
        }
        parts.add(laterCalls());
        return parts;
    }

    private static void add(List<Question> list, String call, ToLongFunction<TermLodgings> asked) {
        list.add(new Question(call, asked));
    }

    private static void wholes(List<Question> all) {
        add(all, "digest()", x -> x.digest());
        add(all, "fault()", x -> x.fault());
        add(all, "wrong()", x -> x.wrong());
        add(all, "matter()", x -> x.matter());
        for (int what = 0; what <= 6; what++) {
            int asked = what;
            add(all, "count(" + asked + ")", x -> x.count(asked));
        }
        for (int what = 0; what <= 2; what++) {
            int asked = what;
            add(all, "traded(" + asked + ")", x -> x.traded(asked));
        }
    }

    private static void ofPeople(List<Question> all) {
        for (int p = 0; p < 16; p++) {
            int person = p;
            add(all, "turn(" + person + ")", x -> x.turn(person));
            add(all, "bill(" + person + ")", x -> x.bill(person));
            for (int what = 0; what < 18; what++) {
                int asked = what;
                add(all, "about(" + person + ", " + asked + ")", x -> x.about(person, asked));
            }
            for (int n = 0; n < 60; n++) {
                int night = n;
                add(all, "had(" + person + ", " + night + ")", x -> x.had(person, night));
            }
        }
    }

    private static void ofRooms(List<Question> all) {
        for (int r = 0; r < 24; r++) {
            int room = r;
            for (int what = 0; what < 4; what++) {
                int asked = what;
                add(all, "of(" + room + ", " + asked + ")", x -> x.of(room, asked));
            }
            for (int p = 0; p < 16; p++) {
                int person = p;
                add(all, "may(" + person + ", " + room + ")", x -> x.may(person, room));
            }
        }
    }

    private static void ofNights(List<Question> all) {
        for (int h = 0; h < 8; h++) {
            int house = h;
            for (int n = 0; n < 60; n++) {
                int night = n;
                add(all, "priced(" + house + ", " + night + ")", x -> x.priced(house, night));
            }
        }
    }

    /** Calls that would show a change which no question shows. */
    private static List<Question> laterCalls() {
        List<Question> later = new ArrayList<>();
        add(later, "wish(0, 1)", x -> x.wish(0, 1));
        add(later, "content(1)", x -> x.content(1));
        add(later, "license(5)", x -> x.license(5));
        add(later, "license(7)", x -> x.license(7));
        add(later, "trade()", x -> x.trade());
        add(later, "digest() behind trade()", x -> x.digest());
        add(later, "deal()", x -> x.deal());
        add(later, "digest() behind deal()", x -> x.digest());
        add(later, "strike(0)", x -> x.strike(0));
        add(later, "digest() behind strike(0)", x -> x.digest());
        add(later, "pass(1)", x -> x.pass(1));
        add(later, "price(1, 1, 1)", x -> x.price(1, 1, 1));
        add(later, "matter() behind price()", x -> x.matter());
        add(later, "type('|')", x -> x.type('|'));
        add(later, "fault() behind type('|')", x -> x.fault());
        add(later, "type('y')", x -> x.type('y'));
        add(later, "fault() behind type('y')", x -> x.fault());
        add(later, "repeal()", x -> x.repeal());
        add(later, "room(0, 1, 2)", x -> x.room(0, 1, 2));
        add(later, "person(1, 2)", x -> x.person(1, 2));
        add(later, "draw(3)", x -> x.draw(3));
        add(later, "digest() at last", x -> x.digest());
        return later;
    }
}
