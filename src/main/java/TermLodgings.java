import java.util.Arrays;

/** Lodgings of a learned town: rooms, a statute, ballots, trades, struck licences, nights and bills. */
public final class TermLodgings {
    public static final int NONE = -1, BAD = -2, NOT = -3, FULL = -4;

    private static final int MOST_ROOMS = 24;
    private static final int MOST_PEOPLE = 16;
    private static final int MOST_WISHES = 8;
    private static final int MOST_BYTES = 60;
    private static final int MOST_TELLINGS = 40;
    private static final int HOUSES = 8;
    private static final int NIGHTS = 60;

    private static final int GREATEST_MILES = 20;
    private static final int GREATEST_SORT = 3;
    private static final int GREATEST_YEAR = 4;
    private static final int GREATEST_GROUP = 7;
    private static final int GREATEST_PRICE = 999;
    private static final int LEAST_BYTE = 32;
    private static final int GREATEST_BYTE = 126;

    private static final int BITS = 32;
    private static final int LEAST_INT = 0x80000000;

    /** about() tells WISH k as what = FIRST_WISH + k. */
    private static final int FIRST_WISH = 10;

    private final Rooms rooms;
    private final People people;
    private final Statute statute;
    private final Town town;
    private final Turns turns;
    private final Dealing dealing;
    private final Trading trading;
    private final Moving moving;
    private final Nights nights;
    private final Prices prices;

    public TermLodgings() {
        Town made = new Town();
        town = made;
        rooms = made.rooms;
        people = made.people;
        statute = made.statute;
        turns = new Turns();
        dealing = new Dealing(made);
        trading = new Trading(made);
        moving = new Moving(made);
        nights = new Nights();
        prices = new Prices();
    }

    // ---- rooms, people

    public int room(int house, int miles, int sort) {
        if (!within(house, 0, HOUSES - 1) || !within(miles, 0, GREATEST_MILES) || !within(sort, 0, GREATEST_SORT)) {
            return BAD;
        }
        return rooms.many < MOST_ROOMS ? rooms.add(house, miles, sort) : FULL;
    }

    public int person(int year, int group) {
        if (!within(year, 1, GREATEST_YEAR)) {
            return BAD;
        }
        if (group != NONE && !within(group, 0, GREATEST_GROUP)) {
            return BAD;
        }
        if (people.many >= MOST_PEOPLE) {
            return FULL;
        }
        int person = people.add(year, group);
        turns.addLast(person);
        return person;
    }

    public int wish(int person, int room) {
        if (!people.has(person) || !rooms.has(room) || people.wishesFor(person, room)) {
            return BAD;
        }
        return people.wished[person] < MOST_WISHES ? people.addWish(person, room) : FULL;
    }

    public int content(int person) {
        if (!people.has(person)) {
            return BAD;
        }
        int before = people.wished[person];
        people.wished[person] = 0;
        return before;
    }

    public int about(int person, int what) {
        if (!people.has(person)) {
            return BAD;
        }
        switch (what) {
            case 0:
                return people.year[person];
            case 1:
                return people.group[person];
            case 2:
                return people.wished[person];
            case 3:
                return people.lodging[person];
            case 4:
                return people.gone[person] ? 1 : 0;
            case 5:
                return people.kept[person];
            default:
                return wishTold(person, what);
        }
    }

    private int wishTold(int person, int what) {
        if (!within(what, FIRST_WISH, FIRST_WISH + MOST_WISHES - 1)) {
            return BAD;
        }
        int wished = people.wishAt(person, what - FIRST_WISH);
        return wished == NONE ? BAD : wished;
    }

    public int of(int room, int what) {
        if (!rooms.has(room)) {
            return BAD;
        }
        switch (what) {
            case 0:
                return rooms.house[room];
            case 1:
                return rooms.miles[room];
            case 2:
                return rooms.sort[room];
            case 3:
                return rooms.holder[room];
            default:
                return BAD;
        }
    }

    public int give(int person, int room) {
        if (!people.has(person)) {
            return BAD;
        }
        if (room != NONE && !rooms.has(room)) {
            return BAD;
        }
        if (room != NONE && !canBeGiven(person, room)) {
            return NOT;
        }
        int before = people.lodging[person];
        town.leave(person);
        town.settle(person, room);
        return before;
    }

    private boolean canBeGiven(int person, int room) {
        int holder = rooms.holderOf(room);
        return (holder == NONE || holder == person) && town.suits(person, room);
    }

    // ---- the statute

    public int type(int b) {
        if (!within(b, LEAST_BYTE, GREATEST_BYTE)) {
            return BAD;
        }
        return statute.bytes < MOST_BYTES ? statute.add(b) : FULL;
    }

    public int repeal() {
        int before = statute.bytes;
        statute.clear();
        return before;
    }

    public int fault() {
        return statute.faultPlace();
    }

    public int may(int person, int room) {
        if (!people.has(person) || !rooms.has(room)) {
            return BAD;
        }
        return town.suits(person, room) ? 1 : 0;
    }

    public int wrong() {
        int found = 0;
        for (int p = 0; p < people.many; p++) {
            int lodging = people.lodgingOf(p);
            if (lodging != NONE && !town.suits(p, lodging)) {
                found |= 1 << p;
            }
        }
        return found;
    }

    // ---- ballots

    public int draw(int seed) {
        turns.shuffle(seed);
        return turns.at(0);
    }

    public int change(int i, int j) {
        if (!turns.has(i) || !turns.has(j)) {
            return BAD;
        }
        turns.swap(i, j);
        return 1;
    }

    public int turn(int i) {
        return turns.has(i) ? turns.at(i) : BAD;
    }

    public int deal() {
        dealing.run(turns);
        return people.housed();
    }

    public int trade() {
        return trading.run();
    }

    public int traded(int what) {
        switch (what) {
            case 0:
                return trading.rings;
            case 1:
                return trading.longest;
            case 2:
                return trading.rounds;
            default:
                return BAD;
        }
    }

    public int strike(int house) {
        if (!within(house, 0, HOUSES - 1)) {
            return BAD;
        }
        return rooms.isStruck(house) ? NOT : moving.run(house);
    }

    public int license(int house) {
        if (!within(house, 0, HOUSES - 1)) {
            return BAD;
        }
        if (!rooms.isStruck(house)) {
            return NOT;
        }
        rooms.struck &= ~(1 << house);
        return 1;
    }

    // ---- nights

    public int away(int person, boolean is) {
        if (!people.has(person)) {
            return BAD;
        }
        people.gone[person] = is;
        return 1;
    }

    public int pass(int n) {
        if (!within(n, 1, NIGHTS)) {
            return BAD;
        }
        if (n > NIGHTS - nights.passed) {
            return FULL;
        }
        for (int i = 0; i < n; i++) {
            nights.keepOne(people);
        }
        return nights.passed;
    }

    public int price(int house, int from, int v) {
        if (!within(house, 0, HOUSES - 1) || !within(from, 0, NIGHTS - 1) || !within(v, 0, GREATEST_PRICE)) {
            return BAD;
        }
        return prices.tellings < MOST_TELLINGS ? prices.tell(house, from, v) : FULL;
    }

    public int priced(int house, int night) {
        if (!within(house, 0, HOUSES - 1) || !within(night, 0, NIGHTS - 1)) {
            return BAD;
        }
        return prices.at(house, night);
    }

    public int had(int person, int night) {
        if (!people.has(person) || !within(night, 0, nights.passed - 1)) {
            return BAD;
        }
        return nights.lodgingIn(person, night);
    }

    public int bill(int person) {
        if (!people.has(person)) {
            return BAD;
        }
        int sum = 0;
        for (int night = 0; night < nights.passed; night++) {
            sum += prices.at(rooms.houseOf(nights.lodgingIn(person, night)), night);
        }
        return sum;
    }

    public int matter() {
        if (prices.tellings == 0) {
            // NOT itself could be a true difference here
            return LEAST_INT;
        }
        int difference = 0;
        for (int night = 0; night < nights.passed; night++) {
            difference += lodgersAt(prices.latestHouse, night) * prices.dropWithoutLatest(night);
        }
        return difference;
    }

    private int lodgersAt(int house, int night) {
        int found = 0;
        for (int p = 0; p < people.many; p++) {
            if (rooms.houseOf(nights.lodgingIn(p, night)) == house) {
                found++;
            }
        }
        return found;
    }

    public int count(int what) {
        switch (what) {
            case 0:
                return rooms.many;
            case 1:
                return people.many;
            case 2:
                return statute.bytes;
            case 3:
                return Integer.bitCount(rooms.struck);
            case 4:
                return nights.passed;
            case 5:
                return prices.tellings;
            case 6:
                return people.housed();
            default:
                return BAD;
        }
    }

    public long digest() {
        long h = 17;
        for (int what = 0; what <= 6; what++) {
            h = 31 * h + count(what);
        }
        for (int p = 0; p < people.many; p++) {
            for (int what = 1; what <= 5; what++) {
                h = 31 * h + about(p, what);
            }
            h = 31 * h + bill(p);
        }
        for (int i = 0; i < turns.many; i++) {
            h = 31 * h + turns.at(i);
        }
        for (int what = 0; what <= 2; what++) {
            h = 31 * h + traded(what);
        }
        return h;
    }

    private static boolean within(int number, int least, int greatest) {
        return number >= least && number <= greatest;
    }

    private static boolean inBits(int bits, int number) {
        return number >= 0 && number < BITS && (bits >>> number & 1) == 1;
    }

    private static int leastIn(int bits) {
        for (int number = 0; number < BITS; number++) {
            if (inBits(bits, number)) {
                return number;
            }
        }
        return NONE;
    }

    private static final class Rooms {
        int many;
        /** The HOUSES that are STRUCK, as bits. */
        int struck;
        /** The ROOMS that somebody has, as bits. */
        int taken;
        final int[] house = new int[MOST_ROOMS];
        final int[] miles = new int[MOST_ROOMS];
        final int[] sort = new int[MOST_ROOMS];
        final int[] holder = new int[MOST_ROOMS];

        boolean has(int room) {
            return room >= 0 && room < many;
        }

        int add(int itsHouse, int itsMiles, int itsSort) {
            if (many >= MOST_ROOMS) {
                return FULL;
            }
            house[many] = itsHouse;
            miles[many] = itsMiles;
            sort[many] = itsSort;
            holder[many] = NONE;
            many++;
            return many - 1;
        }

        int houseOf(int room) {
            return has(room) ? house[room] : NONE;
        }

        int holderOf(int room) {
            return has(room) ? holder[room] : NONE;
        }

        /** The ROOMS of a HOUSE, as bits. */
        int under(int roof) {
            int found = 0;
            for (int room = 0; room < many; room++) {
                if (house[room] == roof) {
                    found |= 1 << room;
                }
            }
            return found;
        }

        boolean isStruck(int itsHouse) {
            return inBits(struck, itsHouse);
        }
    }

    private static final class People {
        int many;
        final int[] year = new int[MOST_PEOPLE];
        final int[] group = new int[MOST_PEOPLE];
        final int[] wished = new int[MOST_PEOPLE];
        final int[] wishes = new int[MOST_PEOPLE * MOST_WISHES];
        final int[] lodging = new int[MOST_PEOPLE];
        final int[] kept = new int[MOST_PEOPLE];
        final boolean[] gone = new boolean[MOST_PEOPLE];

        boolean has(int person) {
            return person >= 0 && person < many;
        }

        int add(int itsYear, int itsGroup) {
            if (many >= MOST_PEOPLE) {
                return FULL;
            }
            year[many] = itsYear;
            group[many] = itsGroup;
            lodging[many] = NONE;
            many++;
            return many - 1;
        }

        int lodgingOf(int person) {
            return has(person) ? lodging[person] : NONE;
        }

        int wishesOf(int person) {
            return has(person) ? wished[person] : 0;
        }

        int wishAt(int person, int k) {
            boolean told = has(person) && k >= 0 && k < wished[person];
            return told ? wishes[person * MOST_WISHES + k] : NONE;
        }

        boolean wishesFor(int person, int room) {
            for (int k = 0; k < wishesOf(person); k++) {
                if (wishAt(person, k) == room) {
                    return true;
                }
            }
            return false;
        }

        int addWish(int person, int room) {
            int before = wishesOf(person);
            if (!has(person) || before >= MOST_WISHES) {
                return FULL;
            }
            wishes[person * MOST_WISHES + before] = room;
            wished[person] = before + 1;
            return before + 1;
        }

        /** All of one's GROUP, as bits: that one alone without a GROUP. */
        int friendsOf(int person) {
            if (!has(person)) {
                return 0;
            }
            int friends = 1 << person;
            for (int p = 0; p < many; p++) {
                if (group[p] != NONE && group[p] == group[person]) {
                    friends |= 1 << p;
                }
            }
            return friends;
        }

        int housed() {
            int found = 0;
            for (int p = 0; p < many; p++) {
                if (lodging[p] != NONE) {
                    found++;
                }
            }
            return found;
        }
    }

    /** THE STATUTE, read byte by byte as it is typed; only its TESTS are kept. */
    private static final class Statute {
        private static final int LETTER = 0, SIGN = 1, FIGURE = 2;
        private static final int MOST_FIGURES = 3;
        /** The shortest TEST with what parts it from the next one has four bytes. */
        private static final int MOST_TESTS = MOST_BYTES / 4 + 1;

        int bytes;
        private int tests;
        /** What the next byte may be: LETTER, SIGN, or FIGURE and how many figures there are. */
        private int awaited = LETTER;
        private int broken = NONE;
        private boolean caseBegins = true;
        private final int[] letter = new int[MOST_TESTS];
        private final int[] sign = new int[MOST_TESTS];
        private final int[] number = new int[MOST_TESTS];
        private final boolean[] beginsCase = new boolean[MOST_TESTS];

        void clear() {
            bytes = 0;
            tests = 0;
            awaited = LETTER;
            broken = NONE;
            caseBegins = true;
        }

        int add(int b) {
            if (broken == NONE && !goesOnWith(b)) {
                broken = bytes;
            }
            bytes++;
            return bytes;
        }

        int faultPlace() {
            if (broken != NONE || bytes == 0) {
                return broken;
            }
            return awaited <= FIGURE ? bytes : NONE;
        }

        private boolean goesOnWith(int b) {
            if (awaited == LETTER) {
                return beginTest(b);
            }
            if (!within(tests, 1, MOST_TESTS)) {
                return false;
            }
            if (awaited == SIGN) {
                return takeSign(b);
            }
            return within(b, '0', '9') ? takeFigure(b - '0') : endTest(b);
        }

        private boolean beginTest(int b) {
            boolean known = b == 'y' || b == 'm' || b == 's' || b == 'h';
            if (!known || tests >= MOST_TESTS) {
                return false;
            }
            letter[tests] = b;
            number[tests] = 0;
            beginsCase[tests] = caseBegins;
            tests++;
            awaited = SIGN;
            return true;
        }

        private boolean takeSign(int b) {
            if (b != '<' && b != '=' && b != '>') {
                return false;
            }
            sign[tests - 1] = b;
            awaited = FIGURE;
            return true;
        }

        private boolean takeFigure(int figure) {
            if (awaited >= FIGURE + MOST_FIGURES) {
                return false;
            }
            number[tests - 1] = 10 * number[tests - 1] + figure;
            awaited++;
            return true;
        }

        private boolean endTest(int b) {
            if (awaited == FIGURE || (b != '&' && b != '|')) {
                return false;
            }
            caseBegins = b == '|';
            awaited = LETTER;
            return true;
        }

        boolean allows(int year, int miles, int sort, int house) {
            if (tests == 0 || faultPlace() != NONE) {
                return true;
            }
            boolean holds = false;
            for (int t = 0; t < tests && t < MOST_TESTS; t++) {
                if (beginsCase[t]) {
                    if (holds) {
                        return true;
                    }
                    holds = true;
                }
                holds = holds && compares(asked(letter[t], year, miles, sort, house), sign[t], number[t]);
            }
            return holds;
        }

        private static int asked(int letter, int year, int miles, int sort, int house) {
            switch (letter) {
                case 'y':
                    return year;
                case 'm':
                    return miles;
                case 's':
                    return sort;
                default:
                    return house;
            }
        }

        private static boolean compares(int value, int sign, int number) {
            switch (sign) {
                case '<':
                    return value < number;
                case '=':
                    return value == number;
                default:
                    return value > number;
            }
        }
    }

    /** Who lives where, and who MAY. */
    private static final class Town {
        final Rooms rooms = new Rooms();
        final People people = new People();
        final Statute statute = new Statute();
        /** The ROOMS that each one MAY have, as bits: as they were when weighed last. */
        private final int[] choice = new int[MOST_PEOPLE];

        /** Whether a person MAY live in a ROOM. */
        boolean suits(int person, int room) {
            if (!people.has(person) || !rooms.has(room) || rooms.isStruck(rooms.house[room])) {
                return false;
            }
            return statute.allows(people.year[person], rooms.miles[room], rooms.sort[room], rooms.house[room]);
        }

        void weighAll() {
            for (int p = 0; p < people.many; p++) {
                choice[p] = 0;
                for (int room = 0; room < rooms.many; room++) {
                    if (suits(p, room)) {
                        choice[p] |= 1 << room;
                    }
                }
            }
        }

        int choiceOf(int person) {
            return people.has(person) ? choice[person] : 0;
        }

        /** The ROOMS that nobody has and that one MAY have. */
        int openTo(int person) {
            return people.has(person) ? choice[person] & ~rooms.taken : 0;
        }

        /** NONE changes nothing. */
        void settle(int person, int room) {
            if (people.has(person) && rooms.has(room)) {
                people.lodging[person] = room;
                rooms.holder[room] = person;
                rooms.taken |= 1 << room;
            }
        }

        void leave(int person) {
            int room = people.lodgingOf(person);
            if (people.has(person) && rooms.has(room)) {
                people.lodging[person] = NONE;
                rooms.holder[room] = NONE;
                rooms.taken &= ~(1 << room);
            }
        }
    }

    private static final class Turns {
        int many;
        private final int[] row = new int[MOST_PEOPLE];

        boolean has(int i) {
            return within(i, 0, many - 1);
        }

        int at(int i) {
            return has(i) ? row[i] : NONE;
        }

        void addLast(int person) {
            if (many < MOST_PEOPLE) {
                row[many] = person;
                many++;
            }
        }

        void swap(int i, int j) {
            if (has(i) && has(j)) {
                int kept = row[i];
                row[i] = row[j];
                row[j] = kept;
            }
        }

        void shuffle(int seed) {
            for (int i = 0; i < many; i++) {
                row[i] = i;
            }
            int drawn = seed;
            for (int i = many - 1; i >= 1; i--) {
                drawn = 1103515245 * drawn + 12345;
                swap(i, (drawn >>> 16) % (i + 1));
            }
        }
    }

    /** A DEAL of all ROOMS by TURNS. */
    private static final class Dealing {
        private final Town town;
        private final People people;
        private final Rooms rooms;
        /** Which ROOM each of a GROUP would get under the roof that is tried. */
        private final int[] picks = new int[MOST_PEOPLE];

        Dealing(Town town) {
            this.town = town;
            people = town.people;
            rooms = town.rooms;
        }

        void run(Turns turns) {
            town.weighAll();
            for (int p = 0; p < people.many; p++) {
                town.leave(p);
            }
            int served = 0;
            for (int i = 0; i < turns.many; i++) {
                int person = turns.at(i);
                if (!inBits(served, person)) {
                    int friends = people.friendsOf(person);
                    serve(person, friends);
                    served |= friends;
                }
            }
        }

        private void serve(int person, int friends) {
            boolean alone = Integer.bitCount(friends) == 1;
            if (alone || !settleTogether(person, friends)) {
                settleEach(friends);
            }
        }

        private boolean settleTogether(int person, int friends) {
            for (int k = 0; k < people.wishesOf(person); k++) {
                int house = rooms.houseOf(people.wishAt(person, k));
                if (pickAmong(rooms.under(house), friends)) {
                    settlePicks(friends);
                    return true;
                }
            }
            return false;
        }

        private boolean pickAmong(int offered, int friends) {
            int left = offered;
            for (int p = 0; p < people.many; p++) {
                if (inBits(friends, p)) {
                    int room = leastIn(left & town.openTo(p));
                    if (room == NONE) {
                        return false;
                    }
                    picks[p] = room;
                    left &= ~(1 << room);
                }
            }
            return true;
        }

        private void settlePicks(int friends) {
            for (int p = 0; p < people.many; p++) {
                if (inBits(friends, p)) {
                    town.settle(p, picks[p]);
                }
            }
        }

        private void settleEach(int friends) {
            for (int p = 0; p < people.many; p++) {
                if (inBits(friends, p)) {
                    town.settle(p, dearestOpenWish(p));
                }
            }
        }

        private int dearestOpenWish(int person) {
            int open = town.openTo(person);
            for (int k = 0; k < people.wishesOf(person); k++) {
                int room = people.wishAt(person, k);
                if (inBits(open, room)) {
                    return room;
                }
            }
            return NONE;
        }
    }

    /** TRADES in rings, and what is told of the latest ones. */
    private static final class Trading {
        int rings;
        int longest;
        int rounds;
        /** Those who have not left yet, as bits. */
        private int left;
        private final Town town;
        private final People people;
        /** At whom each one points in this round. */
        private final int[] target = new int[MOST_PEOPLE];
        /** The ROOM with which each one leaves. */
        private final int[] gets = new int[MOST_PEOPLE];

        Trading(Town town) {
            this.town = town;
            people = town.people;
        }

        int run() {
            town.weighAll();
            int traders = traders();
            rings = 0;
            longest = 0;
            rounds = 0;
            left = traders;
            while (left != 0 && rounds < MOST_PEOPLE) {
                pointAll();
                closeAllRings();
                rounds++;
            }
            return moveAll(traders);
        }

        private int traders() {
            int found = 0;
            for (int p = 0; p < people.many; p++) {
                if (inBits(town.choiceOf(p), people.lodgingOf(p))) {
                    found |= 1 << p;
                }
            }
            return found;
        }

        private void pointAll() {
            for (int p = 0; p < people.many; p++) {
                if (inBits(left, p)) {
                    target[p] = pointedAtBy(p);
                }
            }
        }

        private int pointedAtBy(int person) {
            int own = people.lodgingOf(person);
            int choice = town.choiceOf(person);
            for (int k = 0; k < people.wishesOf(person); k++) {
                int room = people.wishAt(person, k);
                if (room == own) {
                    return person;
                }
                int holder = town.rooms.holderOf(room);
                if (inBits(left, holder) && inBits(choice, room)) {
                    return holder;
                }
            }
            return person;
        }

        private void closeAllRings() {
            int leaving = 0;
            for (int p = 0; p < people.many; p++) {
                if (inBits(left, p) && !inBits(leaving, p)) {
                    leaving |= closeRing(p, ringLength(p));
                }
            }
            left &= ~leaving;
        }

        /** How many the ring has in which one is; 0 if one only points into a ring. */
        private int ringLength(int person) {
            int at = person;
            for (int length = 1; length <= MOST_PEOPLE; length++) {
                at = targetOf(at);
                if (at == person) {
                    return length;
                }
            }
            return 0;
        }

        private int targetOf(int person) {
            return people.has(person) ? target[person] : NONE;
        }

        private int closeRing(int person, int length) {
            int members = 0;
            int at = person;
            for (int i = 0; i < length && people.has(at); i++) {
                gets[at] = people.lodgingOf(targetOf(at));
                members |= 1 << at;
                at = targetOf(at);
            }
            if (length >= 2) {
                rings++;
                longest = Math.max(longest, length);
            }
            return members;
        }

        private int moveAll(int traders) {
            int moved = 0;
            for (int p = 0; p < people.many; p++) {
                if (inBits(traders, p)) {
                    moved += people.lodgingOf(p) != gets[p] ? 1 : 0;
                    // nobody need leave first: each ROOM that is left is another trader's now
                    town.settle(p, gets[p]);
                }
            }
            return moved;
        }
    }

    /** STRIKING a HOUSE: those within are the movers, in the order of their numbers. */
    private static final class Moving {
        private final Town town;
        private final People people;
        private final Rooms rooms;
        private int movers;
        private final int[] mover = new int[MOST_PEOPLE];
        /** The ROOMS that each mover could get, as bits. */
        private final int[] choice = new int[MOST_PEOPLE];
        /** A trial: the mover in each ROOM, the ROOM of each mover. */
        private final int[] inside = new int[MOST_ROOMS];
        private final int[] place = new int[MOST_PEOPLE];
        /** A search: the movers who ask for a ROOM, and who asked for each ROOM. */
        private final int[] asking = new int[MOST_PEOPLE];
        private final int[] askedBy = new int[MOST_ROOMS];

        Moving(Town town) {
            this.town = town;
            people = town.people;
            rooms = town.rooms;
        }

        /** How many lost their ROOM and got none. */
        int run(int house) {
            rooms.struck |= 1 << house;
            emptyHouse(house);
            town.weighAll();
            for (int m = 0; m < movers; m++) {
                choice[m] = town.openTo(mover[m]);
            }
            int most = mostFrom(0, 0);
            settleMovers(most);
            return movers - most;
        }

        private void emptyHouse(int house) {
            movers = 0;
            for (int p = 0; p < people.many; p++) {
                if (movers < MOST_PEOPLE && rooms.houseOf(people.lodgingOf(p)) == house) {
                    mover[movers] = p;
                    movers++;
                    town.leave(p);
                }
            }
        }

        private void settleMovers(int most) {
            int missing = most;
            int given = 0;
            for (int m = 0; m < movers; m++) {
                int room = leastRoom(m, given, missing);
                if (room != NONE) {
                    town.settle(mover[m], room);
                    given |= 1 << room;
                    missing--;
                }
            }
        }

        /** The least ROOM for a mover with which as many as are missing still get one. */
        private int leastRoom(int m, int given, int missing) {
            for (int room = 0; room < rooms.many; room++) {
                boolean open = inBits(choice[m] & ~given, room);
                if (open && 1 + mostFrom(m + 1, given | 1 << room) == missing) {
                    return room;
                }
            }
            return NONE;
        }

        /** How many of the movers from one on can get a ROOM that is not given yet. */
        private int mostFrom(int first, int given) {
            Arrays.fill(inside, NONE);
            Arrays.fill(place, NONE);
            int found = 0;
            for (int m = first; m < movers; m++) {
                int last = findRoom(m, given);
                if (last != NONE) {
                    changeAlong(last);
                    found++;
                }
            }
            return found;
        }

        /** An empty ROOM to which a chain leads, each asking for the ROOM of the next; NONE without. */
        private int findRoom(int m, int given) {
            int seen = given;
            int askers = 1;
            asking[0] = m;
            for (int i = 0; i < askers && i < MOST_PEOPLE; i++) {
                int open = choiceOf(asking[i]);
                for (int room = 0; room < rooms.many; room++) {
                    if (inBits(open & ~seen, room)) {
                        seen |= 1 << room;
                        askedBy[room] = asking[i];
                        if (inside[room] == NONE) {
                            return room;
                        }
                        if (askers < MOST_PEOPLE) {
                            asking[askers] = inside[room];
                            askers++;
                        }
                    }
                }
            }
            return NONE;
        }

        private int choiceOf(int m) {
            return m >= 0 && m < movers ? choice[m] : 0;
        }

        /** Each of the chain gets the ROOM that it asked for. */
        private void changeAlong(int last) {
            int room = last;
            for (int i = 0; i < MOST_PEOPLE && rooms.has(room); i++) {
                int asker = askedBy[room];
                if (asker < 0 || asker >= movers) {
                    return;
                }
                int before = place[asker];
                inside[room] = asker;
                place[asker] = room;
                room = before;
            }
        }
    }

    private static final class Nights {
        int passed;
        private final int[] lodgings = new int[MOST_PEOPLE * NIGHTS];

        Nights() {
            // who comes later had no ROOM in the NIGHTS before
            Arrays.fill(lodgings, NONE);
        }

        void keepOne(People people) {
            if (passed >= NIGHTS) {
                return;
            }
            for (int p = 0; p < people.many; p++) {
                int room = people.lodgingOf(p);
                lodgings[p * NIGHTS + passed] = room;
                if (room != NONE && !people.gone[p]) {
                    people.kept[p]++;
                }
            }
            passed++;
        }

        int lodgingIn(int person, int night) {
            boolean told = within(person, 0, MOST_PEOPLE - 1) && within(night, 0, passed - 1);
            return told ? lodgings[person * NIGHTS + night] : NONE;
        }
    }

    private static final class Prices {
        int tellings;
        int latestHouse = NONE;
        private final int[] since = new int[MOST_TELLINGS];
        private final int[] value = new int[MOST_TELLINGS];
        /** The telling that counts for each HOUSE in each NIGHT. */
        private final int[] counting = new int[HOUSES * NIGHTS];
        /** What counted for the latest told HOUSE before the latest telling, from its NIGHT on. */
        private final int[] former = new int[NIGHTS];

        Prices() {
            Arrays.fill(counting, NONE);
        }

        int tell(int house, int from, int v) {
            if (tellings >= MOST_TELLINGS || !isListed(house, from)) {
                return FULL;
            }
            since[tellings] = from;
            value[tellings] = v;
            latestHouse = house;
            for (int night = from; night < NIGHTS; night++) {
                int place = house * NIGHTS + night;
                former[night] = counting[place];
                if (sinceOf(counting[place]) <= from) {
                    counting[place] = tellings;
                }
            }
            tellings++;
            return tellings;
        }

        int at(int house, int night) {
            return isListed(house, night) ? valueOf(counting[house * NIGHTS + night]) : 0;
        }

        /** How far the latest told HOUSE's PRICE would be above what counts now. */
        int dropWithoutLatest(int night) {
            boolean reached = within(night, sinceOf(tellings - 1), NIGHTS - 1) && isListed(latestHouse, night);
            return reached ? valueOf(former[night]) - at(latestHouse, night) : 0;
        }

        private int sinceOf(int telling) {
            return within(telling, 0, MOST_TELLINGS - 1) ? since[telling] : NONE;
        }

        private int valueOf(int telling) {
            return within(telling, 0, MOST_TELLINGS - 1) ? value[telling] : 0;
        }

        private static boolean isListed(int house, int night) {
            return within(house, 0, HOUSES - 1) && within(night, 0, NIGHTS - 1);
        }
    }
}
