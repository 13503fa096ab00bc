import java.util.Random;

/** Long drawn runs of calls, each answer compared with that of the plain telling of the document. */
public final class PlainTownTest {
    private static final int RUNS = 400, CALLS = 512;

    private final Random random;
    private final TermLodgings x = new TermLodgings();
    private final PlainTown plain = new PlainTown();
    private final int mostRooms;
    private final int mostPeople;
    private final int houses;
    private int calls = 0;

    private PlainTownTest(int seed) {
        random = new Random(seed);
        mostRooms = seed % 4 == 0 ? 25 : 2 + random.nextInt(9);
        mostPeople = seed % 4 == 0 ? 17 : 1 + random.nextInt(7);
        houses = 1 + random.nextInt(8);
    }

    public static void main(String[] args) {
        for (int seed = 0; seed < RUNS; seed++) {
            new PlainTownTest(seed).run(seed);
            new PlainTownTest(seed).strikeCrowds(seed);
        }
        Due.finish();
    }

    private void run(int seed) {
        for (int n = 0; n < mostRooms; n++) {
            room();
        }
        for (int n = 0; n < mostPeople; n++) {
            person();
        }
        for (int n = random.nextInt(8 * mostPeople); n > 0; n--) {
            wish("run " + seed + ", first wishes: ");
        }
        while (calls < CALLS - 40) {
            step(seed);
        }
        same("run " + seed + ": digest()", x.digest(), plain.digest());
    }

    /** Again and again all who can live in HOUSE 0, which is STRUCK then, each YEAR having other ROOMS to go to. */
    private void strikeCrowds(int seed) {
        for (int n = 0; n < mostRooms; n++) {
            int house = random.nextInt(2) * random.nextInt(8), miles = random.nextInt(8);
            same("room(" + house + ", " + miles + ", 0)", x.room(house, miles, 0), plain.room(house, miles, 0));
        }
        for (int n = 0; n < mostPeople; n++) {
            person();
        }
        while (calls < CALLS - 120) {
            crowd("run " + seed + " of crowds, call " + calls + ": ");
        }
    }

    private void crowd(String run) {
        same(run + "repeal()", x.repeal(), plain.repeal());
        same(run + "license(0)", x.license(0), plain.license(0));
        same(run + "deal()", x.deal(), plain.deal());
        int room = 0;
        for (int p = 0; p < plain.count(1); p++) {
            while (room < plain.count(0) && plain.of(room, 0) != 0) {
                room++;
            }
            same(run + "give(" + p + ", " + room + ")", x.give(p, room), plain.give(p, room));
            room++;
        }
        String cases = "m=" + random.nextInt(8);
        for (int year = 1; year <= 4; year++) {
            cases += "|y=" + year + "&" + "mh".charAt(random.nextInt(2)) + "<=>".charAt(random.nextInt(3))
                + random.nextInt(8);
        }
        typeAll(run, cases);
        same(run + "strike(0)", x.strike(0), plain.strike(0));
        same(run + "digest() behind strike(0)", x.digest(), plain.digest());
    }

    private void same(String call, long got, long due) {
        calls++;
        Due.due(call, got, due);
    }

    /** Mostly a number from 0 to below the bound, now and then one around it. */
    private int upTo(int bound) {
        return random.nextInt(40) == 0 ? random.nextInt(bound + 4) - 2 : random.nextInt(bound);
    }

    private int somebody() {
        return upTo(Math.min(16, mostPeople));
    }

    private int someRoom() {
        return upTo(Math.min(24, mostRooms));
    }

    private void room() {
        int house = upTo(houses), miles = upTo(21), sort = upTo(4);
        same("room(" + house + ", " + miles + ", " + sort + ")",
            x.room(house, miles, sort), plain.room(house, miles, sort));
    }

    private void person() {
        int year = 1 + upTo(4), group = upTo(4) - 1;
        same("person(" + year + ", " + group + ")", x.person(year, group), plain.person(year, group));
    }

    private void step(int seed) {
        String run = "run " + seed + ", call " + calls + ": ";
        switch (random.nextInt(16)) {
            case 0, 1, 2 -> wish(run);
            case 3 -> giveToAll(run);
            case 4 -> statute(run);
            case 5, 6 -> deal(run);
            case 7, 8 -> trade(run);
            case 9, 10 -> strike(run);
            case 11 -> night(run);
            case 12 -> price(run);
            case 13 -> ask(run);
            case 14 -> askMore(run);
            default -> rare(run);
        }
    }

    private void wish(String run) {
        int p = somebody(), room = someRoom();
        same(run + "wish(" + p + ", " + room + ")", x.wish(p, room), plain.wish(p, room));
        if (random.nextInt(30) == 0) {
            same(run + "content(" + p + ")", x.content(p), plain.content(p));
        }
    }

    private void giveToAll(String run) {
        for (int n = random.nextInt(mostPeople + 1); n >= 0; n--) {
            give(run);
        }
        trade(run);
    }

    private void give(String run) {
        int p = somebody(), room = random.nextInt(6) == 0 ? -1 : someRoom();
        same(run + "give(" + p + ", " + room + ")", x.give(p, room), plain.give(p, room));
    }

    private void statute(String run) {
        if (random.nextInt(3) > 0) {
            same(run + "repeal()", x.repeal(), plain.repeal());
        }
        int tests = random.nextInt(5);
        for (int t = 0; t < tests; t++) {
            typeAll(run, (plain.count(2) == 0 ? "" : random.nextInt(3) == 0 ? "&" : "|") + drawnTest());
        }
        if (random.nextInt(5) == 0) {
            typeAll(run, "" + (char) (30 + random.nextInt(98)));
        }
        same(run + "fault()", x.fault(), plain.fault());
        same(run + "wrong()", x.wrong(), plain.wrong());
    }

    private String drawnTest() {
        int letter = random.nextInt(4);
        int number = random.nextInt(new int[] {6, 22, 5, 9}[letter]);
        String figures = random.nextInt(9) == 0 ? "0" + number : "" + number;
        return "" + "ymsh".charAt(letter) + "<=>".charAt(random.nextInt(3)) + figures;
    }

    private void typeAll(String run, String text) {
        for (int i = 0; i < text.length(); i++) {
            same(run + "type(" + (int) text.charAt(i) + ")", x.type(text.charAt(i)), plain.type(text.charAt(i)));
        }
        same(run + "fault()", x.fault(), plain.fault());
    }

    private void deal(String run) {
        int seed = random.nextInt();
        if (random.nextInt(3) == 0) {
            int i = somebody(), j = somebody();
            same(run + "change(" + i + ", " + j + ")", x.change(i, j), plain.change(i, j));
        } else {
            same(run + "draw(" + seed + ")", x.draw(seed), plain.draw(seed));
        }
        same(run + "deal()", x.deal(), plain.deal());
        same(run + "digest() behind deal()", x.digest(), plain.digest());
    }

    private void trade(String run) {
        same(run + "trade()", x.trade(), plain.trade());
        for (int what = 0; what < 3; what++) {
            same(run + "traded(" + what + ")", x.traded(what), plain.traded(what));
        }
        same(run + "digest() behind trade()", x.digest(), plain.digest());
    }

    private void strike(String run) {
        int house = upTo(houses);
        same(run + "strike(" + house + ")", x.strike(house), plain.strike(house));
        same(run + "digest() behind strike()", x.digest(), plain.digest());
        int other = upTo(houses);
        same(run + "license(" + other + ")", x.license(other), plain.license(other));
    }

    private void night(String run) {
        int p = somebody(), n = random.nextInt(10) == 0 ? upTo(62) : 1 + random.nextInt(4);
        boolean is = random.nextBoolean();
        same(run + "away(" + p + ", " + is + ")", x.away(p, is), plain.away(p, is));
        same(run + "pass(" + n + ")", x.pass(n), plain.pass(n));
    }

    private void price(String run) {
        int house = upTo(houses), from = random.nextInt(3) == 0 ? upTo(60) : random.nextInt(12), v = upTo(1000);
        same(run + "matter()", x.matter(), plain.matter());
        same(run + "price(" + house + ", " + from + ", " + v + ")",
            x.price(house, from, v), plain.price(house, from, v));
        same(run + "matter()", x.matter(), plain.matter());
    }

    private void ask(String run) {
        int p = somebody(), room = someRoom(), night = upTo(60), house = upTo(8);
        same(run + "may(" + p + ", " + room + ")", x.may(p, room), plain.may(p, room));
        same(run + "had(" + p + ", " + night + ")", x.had(p, night), plain.had(p, night));
        same(run + "priced(" + house + ", " + night + ")", x.priced(house, night), plain.priced(house, night));
        same(run + "bill(" + p + ")", x.bill(p), plain.bill(p));
        same(run + "wrong()", x.wrong(), plain.wrong());
    }

    private void askMore(String run) {
        int p = somebody(), room = someRoom(), what = upTo(20), little = upTo(7);
        same(run + "about(" + p + ", " + what + ")", x.about(p, what), plain.about(p, what));
        same(run + "of(" + room + ", " + little + ")", x.of(room, little), plain.of(room, little));
        same(run + "count(" + little + ")", x.count(little), plain.count(little));
        same(run + "turn(" + p + ")", x.turn(p), plain.turn(p));
        same(run + "traded(" + little + ")", x.traded(little), plain.traded(little));
    }

    private void rare(String run) {
        if (random.nextInt(4) == 0) {
            room();
        }
        if (random.nextInt(4) == 0) {
            person();
        }
        same(run + "digest()", x.digest(), plain.digest());
    }
}
