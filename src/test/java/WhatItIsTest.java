import java.util.Random;
import java.util.TreeSet;

/** The sentence of 'What it is', held against drawn towns: what must be so of a town, however it came about. */
public final class WhatItIsTest {
    private static final int NONE = TermLodgings.NONE;
    private static final int TOWNS = 300;
    private static final String[] STATUTES = {"", "y<3|m<4", "h<2|y=4", "s=0|s=1&y>1|m=0", "h>0&m<6|y=1", "y=1|", "?"};

    private final String name;
    private final Random random;
    private final TermLodgings x = new TermLodgings();
    private final int[] house;
    private final int[] group;
    private final int[][] wishes;

    private WhatItIsTest(int seed) {
        name = "town " + seed;
        random = new Random(seed);
        house = new int[3 + random.nextInt(9)];
        group = new int[2 + random.nextInt(6)];
        wishes = new int[group.length][];
        for (int room = 0; room < house.length; room++) {
            house[room] = random.nextInt(4);
            x.room(house[room], random.nextInt(8), random.nextInt(4));
        }
        for (int p = 0; p < group.length; p++) {
            group[p] = random.nextInt(4) - 1;
            x.person(1 + random.nextInt(4), group[p]);
            wishes[p] = random.ints(0, house.length).distinct().limit(random.nextInt(Math.min(6, house.length)))
                .toArray();
            Due.wishes(x, p, wishes[p]);
        }
    }

    public static void main(String[] args) {
        for (int seed = 0; seed < TOWNS; seed++) {
            new WhatItIsTest(seed).roomsAreDealtByTurnsFriendsUnderOneRoof();
            new WhatItIsTest(seed).tradesHurtNobody();
            new WhatItIsTest(seed).thoseWithinAreMovedAsManyAsCanBe();
            new WhatItIsTest(seed).nightsAreKeptAndBilledByListsThatChange();
        }
        Due.finish();
    }

    private void holds(String what, boolean is) {
        Due.due(name + ": " + what, is ? 1 : 0, 1);
    }

    private void enactAny() {
        Due.enact(x, STATUTES[random.nextInt(STATUTES.length)]);
    }

    private int[] lodgings() {
        int[] rooms = new int[group.length];
        for (int p = 0; p < rooms.length; p++) {
            rooms[p] = x.about(p, 3);
        }
        return rooms;
    }

    /** Each ROOM has whom the one who has it says, and nobody else. */
    private void ownersAgree(String when) {
        int[] lodgings = lodgings();
        for (int room = 0; room < house.length; room++) {
            int owner = NONE;
            for (int p = 0; p < lodgings.length; p++) {
                if (lodgings[p] == room) {
                    holds(when + ", ROOM " + room + " has one owner", owner == NONE);
                    owner = p;
                }
            }
            Due.due(name + ", " + when + ": of(" + room + ", 3)", x.of(room, 3), owner);
        }
    }

    /** How dear a ROOM is: 0 the dearest; behind all WISHES what is none. */
    private int rank(int p, int room) {
        for (int k = 0; k < wishes[p].length; k++) {
            if (wishes[p][k] == room) {
                return k;
            }
        }
        return room == NONE ? 100 : 99;
    }

    // ---- rooms dealt by turns of a ballot, friends under one roof

    private void roomsAreDealtByTurnsFriendsUnderOneRoof() {
        enactAny();
        x.draw(random.nextInt());
        x.deal();
        ownersAgree("dealt");
        Due.due(name + ", dealt: wrong()", x.wrong(), 0);
        int[] lodgings = lodgings();
        TreeSet<Integer> served = new TreeSet<>();
        for (int i = 0; i < group.length; i++) {
            int p = x.turn(i);
            if (friends(p) == 1) {
                gotTheDearestLeft(p, lodgings);
            } else if (served.add(group[p])) {
                boolean together = areUnderAWishedRoof(p, lodgings);
                holds("GROUP " + group[p] + " is under one roof or has WISHES", together || haveWishes(p, lodgings));
                // all ROOMS are free in the first turn
                holds("GROUP " + group[p] + " is under one roof if it can be", together || i > 0 || !fitsSomewhere(p));
            }
        }
    }

    private int friends(int person) {
        int found = 0;
        for (int p = 0; p < group.length; p++) {
            found += p == person || (group[p] != NONE && group[p] == group[person]) ? 1 : 0;
        }
        return found;
    }

    private void gotTheDearestLeft(int p, int[] lodgings) {
        int rank = rank(p, lodgings[p]);
        holds(p + " got a WISH or none", rank != 99);
        for (int k = 0; k < wishes[p].length && k < rank; k++) {
            boolean had = x.of(wishes[p][k], 3) != NONE;
            holds(p + " got none that is dearer, as it is had or forbidden", had || x.may(p, wishes[p][k]) == 0);
        }
    }

    private boolean areFriends(int p, int other) {
        return group[p] == group[other];
    }

    private boolean areUnderAWishedRoof(int first, int[] lodgings) {
        for (int wish : wishes[first]) {
            boolean together = true;
            for (int p = 0; p < group.length; p++) {
                together = together && (!areFriends(p, first) || isIn(lodgings[p], house[wish]));
            }
            if (together) {
                return true;
            }
        }
        return false;
    }

    private boolean haveWishes(int first, int[] lodgings) {
        boolean all = true;
        for (int p = 0; p < group.length; p++) {
            all = all && (!areFriends(p, first) || rank(p, lodgings[p]) != 99);
        }
        return all;
    }

    /** Whether some HOUSE of one's WISHES, while nobody has a ROOM, takes all of the GROUP, each the least left. */
    private boolean fitsSomewhere(int first) {
        for (int wish : wishes[first]) {
            int left = 0;
            for (int room = 0; room < house.length; room++) {
                left |= isIn(room, house[wish]) ? 1 << room : 0;
            }
            boolean fits = true;
            for (int p = 0; p < group.length && fits; p++) {
                if (areFriends(p, first)) {
                    int taken = leastFor(p, left);
                    fits = taken != NONE;
                    left &= ~(fits ? 1 << taken : 0);
                }
            }
            if (fits) {
                return true;
            }
        }
        return false;
    }

    private int leastFor(int p, int left) {
        for (int room = 0; room < house.length; room++) {
            if ((left >> room & 1) == 1 && x.may(p, room) == 1) {
                return room;
            }
        }
        return NONE;
    }

    // ---- trades in rings that hurt nobody

    private void tradesHurtNobody() {
        for (int p = 0; p < group.length; p++) {
            x.give(p, random.nextInt(house.length));
        }
        enactAny();
        int[] before = lodgings();
        int wrong = x.wrong();
        int moved = x.trade();
        ownersAgree("traded");
        Due.due(name + ", traded: wrong()", x.wrong(), wrong);
        int[] after = lodgings();
        int found = 0;
        for (int p = 0; p < group.length; p++) {
            found += before[p] != after[p] ? 1 : 0;
            boolean trades = before[p] != NONE && (wrong >> p & 1) == 0;
            boolean dearer = rank(p, after[p]) < rank(p, before[p]);
            holds(p + " has as before, or a dearer one", before[p] == after[p] || (trades && dearer));
        }
        Due.due(name + ": trade()", moved, found);
        holds("nobody moves outside a ring", (moved == 0) == (x.traded(0) == 0) && x.traded(1) <= moved);
        Due.due(name + ": nothing is left to trade()", x.trade(), 0);
    }

    // ---- licences struck and those within moved, as many as can be

    private void thoseWithinAreMovedAsManyAsCanBe() {
        int struck = random.nextInt(4);
        for (int p = 0; p < group.length; p++) {
            x.give(p, mostlyIn(struck));
        }
        enactAny();
        int[] before = lodgings();
        int lost = 0;
        for (int p = 0; p < group.length; p++) {
            lost += isIn(before[p], struck) ? 1 : 0;
        }
        int most = mostMoved(0, choices(struck, before), taken(before));
        Due.due(name + ": strike(" + struck + ")", x.strike(struck), lost - most);
        ownersAgree("STRUCK");
        int[] after = lodgings();
        int moved = 0;
        for (int p = 0; p < group.length; p++) {
            holds(p + " is in no STRUCK HOUSE", !isIn(after[p], struck));
            holds(p + " stays, or was within", before[p] == after[p] || isIn(before[p], struck));
            moved += isIn(before[p], struck) && after[p] != NONE ? 1 : 0;
        }
        Due.due(name + ": how many are moved", moved, most);
    }

    private int mostlyIn(int roof) {
        int room = random.nextInt(house.length);
        for (int again = 0; again < 9 && !isIn(room, roof); again++) {
            room = random.nextInt(house.length);
        }
        return room;
    }

    private boolean isIn(int room, int roof) {
        return room != NONE && house[room] == roof;
    }

    private static int taken(int[] lodgings) {
        int taken = 0;
        for (int room : lodgings) {
            taken |= room == NONE ? 0 : 1 << room;
        }
        return taken;
    }

    /** Where each who is within MAY live, as bits, once the HOUSE is STRUCK. */
    private int[] choices(int struck, int[] before) {
        int[] choices = new int[group.length];
        for (int p = 0; p < group.length; p++) {
            for (int room = 0; isIn(before[p], struck) && room < house.length; room++) {
                choices[p] |= house[room] != struck && x.may(p, room) == 1 ? 1 << room : 0;
            }
        }
        return choices;
    }

    /** All ways are tried: from one on, each gets nothing, or any ROOM that is left. */
    private int mostMoved(int p, int[] choices, int taken) {
        if (p == choices.length) {
            return 0;
        }
        int most = mostMoved(p + 1, choices, taken);
        for (int room = 0; room < house.length; room++) {
            if ((choices[p] & ~taken & 1 << room) != 0) {
                most = Math.max(most, 1 + mostMoved(p + 1, choices, taken | 1 << room));
            }
        }
        return most;
    }

    // ---- nights kept and bills by lists that change

    private void nightsAreKeptAndBilledByListsThatChange() {
        TermLodgings without = new WhatItIsTest(Integer.parseInt(name.substring(5))).x;
        int[][] tellings = new int[6][];
        for (int n = 0; n < tellings.length; n++) {
            tellings[n] = new int[] {random.nextInt(4), random.nextInt(9), random.nextInt(1000)};
        }
        int seed = random.nextInt();
        for (TermLodgings town : new TermLodgings[] {x, without}) {
            live(town, new Random(seed));
            int told = town == x ? tellings.length : tellings.length - 1;
            for (int n = 0; n < told; n++) {
                town.price(tellings[n][0], tellings[n][1], tellings[n][2]);
            }
        }
        Due.due(name + ": matter()", x.matter(), bills(without) - bills(x));
        billsAreTheirNights();
    }

    private void live(TermLodgings town, Random drawn) {
        for (int night = 0; night < 8; night++) {
            int p = drawn.nextInt(group.length);
            town.give(p, drawn.nextInt(house.length));
            town.away(p, drawn.nextBoolean());
            town.pass(1);
        }
    }

    private int bills(TermLodgings town) {
        int sum = 0;
        for (int p = 0; p < group.length; p++) {
            sum += town.bill(p);
        }
        return sum;
    }

    private void billsAreTheirNights() {
        for (int p = 0; p < group.length; p++) {
            int sum = 0;
            int nights = 0;
            for (int night = 0; night < 8; night++) {
                int room = x.had(p, night);
                sum += room == NONE ? 0 : x.priced(house[room], night);
                nights += room == NONE ? 0 : 1;
            }
            Due.due(name + ": bill(" + p + ")", x.bill(p), sum);
            holds(p + " KEEPS no more NIGHTS than one has a ROOM", x.about(p, 5) <= nights);
        }
    }
}
