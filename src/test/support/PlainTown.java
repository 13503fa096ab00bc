import java.util.ArrayList;
import java.util.Arrays;
import java.util.Collections;
import java.util.HashSet;
import java.util.List;
import java.util.Set;
import java.util.TreeSet;
import java.util.regex.Matcher;
import java.util.regex.Pattern;

/** The document told once more in the plainest and slowest way, to compare the class with. */
final class PlainTown {
    private static final int NONE = -1, BAD = -2, NOT = -3, FULL = -4;
    private static final Pattern STATUTE = Pattern.compile("[ymsh][<=>][0-9]{1,3}([&|][ymsh][<=>][0-9]{1,3})*");

    private static final class Room {
        int house, miles, sort;
    }

    private static final class Person {
        int year, group, room = NONE, kept;
        boolean away;
        List<Integer> wishes = new ArrayList<>();
        List<Integer> nights = new ArrayList<>();
    }

    private final List<Room> rooms = new ArrayList<>();
    private final List<Person> people = new ArrayList<>();
    private final Set<Integer> struck = new HashSet<>();
    private final List<Integer> turns = new ArrayList<>();
    private final List<int[]> tellings = new ArrayList<>();
    private String statute = "";
    private int night = 0;
    private int[] traded = {0, 0, 0};

    private boolean noRoom(int room) {
        return room < 0 || room >= rooms.size();
    }

    private boolean noPerson(int person) {
        return person < 0 || person >= people.size();
    }

    private static boolean outside(int n, int least, int greatest) {
        return n < least || n > greatest;
    }

    private int holder(int room) {
        for (int p = 0; p < people.size(); p++) {
            if (people.get(p).room == room) {
                return p;
            }
        }
        return NONE;
    }

    int room(int house, int miles, int sort) {
        if (outside(house, 0, 7) || outside(miles, 0, 20) || outside(sort, 0, 3)) {
            return BAD;
        }
        if (rooms.size() == 24) {
            return FULL;
        }
        Room r = new Room();
        r.house = house;
        r.miles = miles;
        r.sort = sort;
        rooms.add(r);
        return rooms.size() - 1;
    }

    int person(int year, int group) {
        if (outside(year, 1, 4) || outside(group, -1, 7)) {
            return BAD;
        }
        if (people.size() == 16) {
            return FULL;
        }
        Person p = new Person();
        p.year = year;
        p.group = group;
        for (int n = 0; n < night; n++) {
            p.nights.add(NONE);
        }
        people.add(p);
        turns.add(people.size() - 1);
        return people.size() - 1;
    }

    int wish(int person, int room) {
        if (noPerson(person) || noRoom(room) || people.get(person).wishes.contains(room)) {
            return BAD;
        }
        if (people.get(person).wishes.size() == 8) {
            return FULL;
        }
        people.get(person).wishes.add(room);
        return people.get(person).wishes.size();
    }

    int content(int person) {
        if (noPerson(person)) {
            return BAD;
        }
        int before = people.get(person).wishes.size();
        people.get(person).wishes.clear();
        return before;
    }

    int about(int person, int what) {
        if (noPerson(person)) {
            return BAD;
        }
        Person p = people.get(person);
        int[] told = {p.year, p.group, p.wishes.size(), p.room, p.away ? 1 : 0, p.kept};
        if (!outside(what, 0, 5)) {
            return told[what];
        }
        return outside(what, 10, 9 + p.wishes.size()) ? BAD : p.wishes.get(what - 10);
    }

    int of(int room, int what) {
        if (noRoom(room) || outside(what, 0, 3)) {
            return BAD;
        }
        Room r = rooms.get(room);
        return new int[] {r.house, r.miles, r.sort, holder(room)}[what];
    }

    int give(int person, int room) {
        if (noPerson(person) || (room != NONE && noRoom(room))) {
            return BAD;
        }
        Person p = people.get(person);
        int before = p.room;
        if (room != NONE && (!suits(person, room) || (holder(room) != NONE && holder(room) != person))) {
            return NOT;
        }
        p.room = room;
        return before;
    }

    int type(int b) {
        if (outside(b, 32, 126)) {
            return BAD;
        }
        if (statute.length() == 60) {
            return FULL;
        }
        statute += (char) b;
        return statute.length();
    }

    int repeal() {
        int before = statute.length();
        statute = "";
        return before;
    }

    int fault() {
        if (statute.isEmpty() || STATUTE.matcher(statute).matches()) {
            return NONE;
        }
        for (int end = 1; end <= statute.length(); end++) {
            Matcher matcher = STATUTE.matcher(statute.substring(0, end));
            if (!matcher.matches() && !matcher.hitEnd()) {
                return end - 1;
            }
        }
        return statute.length();
    }

    private boolean suits(int person, int room) {
        if (struck.contains(rooms.get(room).house)) {
            return false;
        }
        if (statute.isEmpty() || fault() != NONE) {
            return true;
        }
        for (String one : statute.split("\\|")) {
            boolean all = true;
            for (String test : one.split("&")) {
                all &= holds(test, people.get(person), rooms.get(room));
            }
            if (all) {
                return true;
            }
        }
        return false;
    }

    private static boolean holds(String test, Person p, Room r) {
        int value = new int[] {p.year, r.miles, r.sort, r.house}["ymsh".indexOf(test.charAt(0))];
        return Integer.signum(value - Integer.parseInt(test.substring(2))) == "<=>".indexOf(test.charAt(1)) - 1;
    }

    int may(int person, int room) {
        if (noPerson(person) || noRoom(room)) {
            return BAD;
        }
        return suits(person, room) ? 1 : 0;
    }

    int wrong() {
        int bits = 0;
        for (int p = 0; p < people.size(); p++) {
            int room = people.get(p).room;
            bits += room != NONE && !suits(p, room) ? 1 << p : 0;
        }
        return bits;
    }

    int draw(int seed) {
        Collections.sort(turns);
        int s = seed;
        for (int i = turns.size() - 1; i >= 1; i--) {
            s = s * 1103515245 + 12345;
            Collections.swap(turns, i, ((s >> 16) & 0xFFFF) % (i + 1));
        }
        return turns.isEmpty() ? NONE : turns.get(0);
    }

    int change(int i, int j) {
        if (noPerson(i) || noPerson(j)) {
            return BAD;
        }
        Collections.swap(turns, i, j);
        return 1;
    }

    int turn(int i) {
        return noPerson(i) ? BAD : turns.get(i);
    }

    int deal() {
        for (Person p : people) {
            p.room = NONE;
        }
        Set<Integer> had = new HashSet<>();
        for (int person : turns) {
            if (had.contains(person)) {
                continue;
            }
            List<Integer> all = new ArrayList<>();
            for (int p = 0; p < people.size(); p++) {
                int group = people.get(p).group;
                if (p == person || (group != NONE && group == people.get(person).group)) {
                    all.add(p);
                }
            }
            had.addAll(all);
            if (all.size() == 1 || !dealRoof(person, all)) {
                for (int p : all) {
                    dealWish(p);
                }
            }
        }
        return count(6);
    }

    private boolean dealRoof(int person, List<Integer> all) {
        for (int wish : people.get(person).wishes) {
            for (int p : all) {
                for (int room = 0; room < rooms.size() && people.get(p).room == NONE; room++) {
                    boolean inIt = rooms.get(room).house == rooms.get(wish).house;
                    if (inIt && holder(room) == NONE && suits(p, room)) {
                        people.get(p).room = room;
                    }
                }
            }
            boolean each = true;
            for (int p : all) {
                each &= people.get(p).room != NONE;
            }
            if (each) {
                return true;
            }
            for (int p : all) {
                people.get(p).room = NONE;
            }
        }
        return false;
    }

    private void dealWish(int person) {
        for (int wish : people.get(person).wishes) {
            if (holder(wish) == NONE && suits(person, wish)) {
                people.get(person).room = wish;
                return;
            }
        }
    }

    int trade() {
        List<Integer> left = new ArrayList<>();
        for (int p = 0; p < people.size(); p++) {
            if (people.get(p).room != NONE && suits(p, people.get(p).room)) {
                left.add(p);
            }
        }
        int[] gets = new int[people.size()];
        int moved = 0;
        List<Integer> traders = new ArrayList<>(left);
        traded = new int[] {0, 0, 0};
        while (!left.isEmpty()) {
            traded[2]++;
            int[] to = new int[people.size()];
            for (int p : left) {
                to[p] = pointsAt(p, left);
            }
            Set<Set<Integer>> rings = new HashSet<>();
            for (int p : left) {
                Set<Integer> path = new HashSet<>();
                int at = p;
                while (path.add(at)) {
                    at = to[at];
                }
                if (at == p) {
                    rings.add(path);
                    gets[p] = people.get(to[p]).room;
                }
            }
            for (Set<Integer> ring : rings) {
                left.removeAll(ring);
                if (ring.size() > 1) {
                    traded[0]++;
                    traded[1] = Math.max(traded[1], ring.size());
                    moved += ring.size();
                }
            }
        }
        for (int p : traders) {
            people.get(p).room = gets[p];
        }
        return moved;
    }

    private int pointsAt(int person, List<Integer> left) {
        List<Integer> wishes = people.get(person).wishes;
        int own = wishes.indexOf(people.get(person).room);
        for (int k = 0; k < (own < 0 ? wishes.size() : own); k++) {
            int holder = holder(wishes.get(k));
            if (left.contains(holder) && suits(person, wishes.get(k))) {
                return holder;
            }
        }
        return person;
    }

    int traded(int what) {
        return outside(what, 0, 2) ? BAD : traded[what];
    }

    int strike(int house) {
        if (outside(house, 0, 7)) {
            return BAD;
        }
        if (!struck.add(house)) {
            return NOT;
        }
        List<Integer> movers = new ArrayList<>();
        for (int p = 0; p < people.size(); p++) {
            int room = people.get(p).room;
            if (room != NONE && rooms.get(room).house == house) {
                movers.add(p);
            }
        }
        for (int p : movers) {
            people.get(p).room = NONE;
        }
        for (int without = 0; without <= movers.size(); without++) {
            if (moveFrom(movers, 0, without, new HashSet<>())) {
                return without;
            }
        }
        throw new IllegalStateException("no way to move");
    }

    /** Tries all ways in the document's order, with at most so many who get none, but none in vain twice. */
    private boolean moveFrom(List<Integer> movers, int at, int without, Set<String> vain) {
        if (at == movers.size()) {
            return true;
        }
        Set<Integer> taken = new TreeSet<>();
        for (Person p : people) {
            taken.add(p.room);
        }
        String state = at + " " + without + " " + taken;
        if (vain.contains(state)) {
            return false;
        }
        int p = movers.get(at);
        for (int room = 0; room < rooms.size(); room++) {
            if (!taken.contains(room) && suits(p, room)) {
                people.get(p).room = room;
                if (moveFrom(movers, at + 1, without, vain)) {
                    return true;
                }
                people.get(p).room = NONE;
            }
        }
        if (without > 0 && moveFrom(movers, at + 1, without - 1, vain)) {
            return true;
        }
        vain.add(state);
        return false;
    }

    int license(int house) {
        if (outside(house, 0, 7)) {
            return BAD;
        }
        return struck.remove(house) ? 1 : NOT;
    }

    int away(int person, boolean is) {
        if (noPerson(person)) {
            return BAD;
        }
        people.get(person).away = is;
        return 1;
    }

    int pass(int n) {
        if (outside(n, 1, 60)) {
            return BAD;
        }
        if (night + n > 60) {
            return FULL;
        }
        night += n;
        for (Person p : people) {
            p.nights.addAll(Collections.nCopies(n, p.room));
            p.kept += p.room != NONE && !p.away ? n : 0;
        }
        return night;
    }

    int price(int house, int from, int v) {
        if (outside(house, 0, 7) || outside(from, 0, 59) || outside(v, 0, 999)) {
            return BAD;
        }
        if (tellings.size() == 40) {
            return FULL;
        }
        tellings.add(new int[] {house, from, v});
        return tellings.size();
    }

    private static int counts(List<int[]> list, int house, int at) {
        int[] best = {house, 0, 0};
        for (int[] telling : list) {
            if (telling[0] == house && telling[1] <= at && telling[1] >= best[1]) {
                best = telling;
            }
        }
        return best[2];
    }

    int priced(int house, int at) {
        return outside(house, 0, 7) || outside(at, 0, 59) ? BAD : counts(tellings, house, at);
    }

    int had(int person, int at) {
        return noPerson(person) || outside(at, 0, night - 1) ? BAD : people.get(person).nights.get(at);
    }

    private int bill(int person, List<int[]> list) {
        int sum = 0;
        for (int n = 0; n < night; n++) {
            int room = people.get(person).nights.get(n);
            sum += room == NONE ? 0 : counts(list, rooms.get(room).house, n);
        }
        return sum;
    }

    int bill(int person) {
        return noPerson(person) ? BAD : bill(person, tellings);
    }

    int matter() {
        if (tellings.isEmpty()) {
            return Integer.MIN_VALUE;
        }
        List<int[]> fewer = tellings.subList(0, tellings.size() - 1);
        int difference = 0;
        for (int p = 0; p < people.size(); p++) {
            difference += bill(p, fewer) - bill(p, tellings);
        }
        return difference;
    }

    int count(int what) {
        int housed = 0;
        for (Person p : people) {
            housed += p.room == NONE ? 0 : 1;
        }
        int[] told = {
            rooms.size(), people.size(), statute.length(), struck.size(), night, tellings.size(), housed
        };
        return outside(what, 0, 6) ? BAD : told[what];
    }

    long digest() {
        List<Integer> row = new ArrayList<>();
        for (int what = 0; what <= 6; what++) {
            row.add(count(what));
        }
        for (int p = 0; p < people.size(); p++) {
            for (int what = 1; what <= 5; what++) {
                row.add(about(p, what));
            }
            row.add(bill(p));
        }
        row.addAll(turns);
        row.addAll(Arrays.asList(traded[0], traded[1], traded[2]));
        long h = 17;
        for (int number : row) {
            h = 31 * h + number;
        }
        return h;
    }
}
