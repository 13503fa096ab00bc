import java.util.ArrayList;
import java.util.List;
import java.util.function.ToLongFunction;

/** All that an object can be asked without a change, in parts of which an object with 512 calls can bear one. */
final class Questions {
    private static final int MOST_TOGETHER = 180;
    static final List<List<Question>> PARTS = parts();

    record Question(String call, ToLongFunction<TermLodgings> asked) {
        long of(TermLodgings x) {
            return asked.applyAsLong(x);
        }
    }

    private Questions() {
    }

    private static List<List<Question>> parts() {
        List<Question> all = new ArrayList<>();
        wholes(all);
        ofPeople(all);
        ofRooms(all);
        ofNights(all);
        List<List<Question>> parts = new ArrayList<>();
        for (int from = 0; from < all.size(); from += MOST_TOGETHER) {
            parts.add(all.subList(from, Math.min(all.size(), from + MOST_TOGETHER)));
        }
        return parts;
    }

    private static void add(List<Question> list, String call, ToLongFunction<TermLodgings> asked) {
        list.add(new Question(call, asked));
    }

    private static void wholes(List<Question> all) {
        add(all, "digest()", x -> x.digest());
        add(all, "fault()", x -> x.fault());
        add(all, "wrong()", x -> x.wrong());
        add(all, "matter()", x -> x.matter());
        for (int what = 0; what <= 6; what++) {
            int asked = what;
            add(all, "count(" + asked + ")", x -> x.count(asked));
        }
        for (int what = 0; what <= 2; what++) {
            int asked = what;
            add(all, "traded(" + asked + ")", x -> x.traded(asked));
        }
    }

    private static void ofPeople(List<Question> all) {
        for (int p = 0; p < 16; p++) {
            int person = p;
            add(all, "turn(" + person + ")", x -> x.turn(person));
            add(all, "bill(" + person + ")", x -> x.bill(person));
            for (int what = 0; what < 18; what++) {
                int asked = what;
                add(all, "about(" + person + ", " + asked + ")", x -> x.about(person, asked));
            }
            for (int n = 0; n < 60; n++) {
                int night = n;
                add(all, "had(" + person + ", " + night + ")", x -> x.had(person, night));
            }
        }
    }

    private static void ofRooms(List<Question> all) {
        for (int r = 0; r < 24; r++) {
            int room = r;
            for (int what = 0; what < 4; what++) {
                int asked = what;
                add(all, "of(" + room + ", " + asked + ")", x -> x.of(room, asked));
            }
            for (int p = 0; p < 16; p++) {
                int person = p;
                add(all, "may(" + person + ", " + room + ")", x -> x.may(person, room));
            }
        }
    }

    private static void ofNights(List<Question> all) {
        for (int h = 0; h < 8; h++) {
            int house = h;
            for (int n = 0; n < 60; n++) {
                int night = n;
                add(all, "priced(" + house + ", " + night + ")", x -> x.priced(house, night));
            }
        }
    }

    /** Calls that would show a change which no question shows. */
    static List<Question> laterCalls() {
        List<Question> later = new ArrayList<>();
        add(later, "wish(0, 1)", x -> x.wish(0, 1));
        add(later, "content(1)", x -> x.content(1));
        add(later, "license(5)", x -> x.license(5));
        add(later, "license(7)", x -> x.license(7));
        add(later, "trade()", x -> x.trade());
        add(later, "digest() behind trade()", x -> x.digest());
        add(later, "deal()", x -> x.deal());
        add(later, "digest() behind deal()", x -> x.digest());
        add(later, "strike(0)", x -> x.strike(0));
        add(later, "digest() behind strike(0)", x -> x.digest());
        add(later, "pass(1)", x -> x.pass(1));
        add(later, "price(1, 1, 1)", x -> x.price(1, 1, 1));
        add(later, "matter() behind price()", x -> x.matter());
        add(later, "type('|')", x -> x.type('|'));
        add(later, "fault() behind type('|')", x -> x.fault());
        add(later, "type('y')", x -> x.type('y'));
        add(later, "fault() behind type('y')", x -> x.fault());
        add(later, "repeal()", x -> x.repeal());
        add(later, "room(0, 1, 2)", x -> x.room(0, 1, 2));
        add(later, "person(1, 2)", x -> x.person(1, 2));
        add(later, "draw(3)", x -> x.draw(3));
        add(later, "digest() at last", x -> x.digest());
        return later;
    }
}
