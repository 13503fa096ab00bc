import java.util.Arrays;

/** Promises 14 to 21 at the edges: nobody and all, SEEDS that wrap, GROUPS that just fit in a HOUSE or do not. */
public final class BallotsEdgesTest {
    private static final int NONE = TermLodgings.NONE, BAD = TermLodgings.BAD, NOT = TermLodgings.NOT;
    private static final int LEAST = Integer.MIN_VALUE, GREATEST = Integer.MAX_VALUE;

    public static void main(String[] args) throws IllegalAccessException {
        Due.runAll(BallotsEdgesTest.class);
    }

    /** So many ROOMS of one HOUSE, then the rest of 24 of another. */
    private static int[] houses(int many, int house, int other) {
        int[] houses = new int[24];
        Arrays.fill(houses, other);
        Arrays.fill(houses, 0, many, house);
        return houses;
    }

    private static TermLodgings groups(int[] houses, int... groups) {
        TermLodgings x = Due.town(0, houses);
        for (int group : groups) {
            x.person(1, group);
        }
        return x;
    }

    /** PEOPLE 0, 1 .. have the ROOMS 0, 1 .. */
    private static TermLodgings housed(int people, int... houses) {
        TermLodgings x = Due.town(people, houses);
        for (int p = 0; p < people; p++) {
            x.give(p, p);
        }
        return x;
    }

    // ---- 14 draw

    private static void drawIs(int people, int seed, int... due) {
        TermLodgings x = Due.town(people);
        Due.due("14 of " + people + ": draw(" + seed + ")", x.draw(seed), due[0]);
        Due.turns("14 of " + people + ": draw(" + seed + ")", x, due);
    }

    static void drawWithoutPeople() {
        for (int seed : new int[] {LEAST, -1, 0, 1, GREATEST}) {
            TermLodgings x = new TermLodgings();
            Due.due("14 nobody: draw(" + seed + ")", x.draw(seed), NONE);
            Due.turns("14 nobody: draw(" + seed + ")", x);
        }
    }

    static void drawOfOne() {
        for (int seed : new int[] {LEAST, -1, 0, 1, GREATEST}) {
            drawIs(1, seed, 0);
        }
    }

    static void drawOfTwo() {
        drawIs(2, 0, 1, 0);
        drawIs(2, 1, 1, 0);
        drawIs(2, -1, 0, 1);
        drawIs(2, GREATEST, 0, 1);
        drawIs(2, LEAST, 1, 0);
    }

    static void drawOfThree() {
        drawIs(3, 0, 1, 2, 0);
        drawIs(3, 1, 1, 0, 2);
        drawIs(3, -1, 0, 2, 1);
        drawIs(3, GREATEST, 0, 1, 2);
        drawIs(3, LEAST, 1, 0, 2);
    }

    static void drawOfAll() {
        drawIs(16, 0, 13, 1, 4, 14, 7, 9, 10, 2, 3, 5, 8, 6, 12, 15, 11, 0);
        drawIs(16, 1, 11, 14, 7, 0, 9, 1, 10, 4, 2, 8, 13, 3, 12, 5, 15, 6);
        drawIs(16, -1, 15, 13, 7, 3, 2, 5, 12, 0, 4, 8, 10, 1, 11, 6, 14, 9);
        drawIs(16, GREATEST, 14, 6, 8, 12, 4, 1, 2, 11, 5, 10, 13, 15, 3, 0, 7, 9);
        drawIs(16, LEAST, 13, 7, 1, 5, 15, 10, 8, 11, 12, 14, 9, 2, 4, 6, 3, 0);
    }

    /** The SEED becomes 0x838CCD13, 0xC5531B80, 0x8AA606C7: below 0 as an int, but its upper bits are from 0 on. */
    static void drawBySeedsThatWrap() {
        drawIs(7, 2, 3, 1, 0, 4, 2, 5, 6);
        drawIs(7, 3, 1, 5, 2, 4, 0, 6, 3);
        drawIs(7, 6, 2, 1, 5, 6, 0, 3, 4);
    }

    static void drawBeginsAsNumbered() {
        TermLodgings x = Due.town(7);
        for (int n = 0; n < 3; n++) {
            Due.due("14 again: draw(2)", x.draw(2), 3);
            Due.turns("14 again: draw(2)", x, 3, 1, 0, 4, 2, 5, 6);
            x.change(0, 6);
        }
    }

    static void drawMovesNobody() {
        TermLodgings x = housed(3, 0, 0, 0);
        x.draw(0);
        Due.lodgings("14 draw(0)", x, 0, 1, 2);
    }

    // ---- 15 change

    static void changeOfTheOnlyOne() {
        TermLodgings x = Due.town(1);
        Due.due("15 change(0, 0)", x.change(0, 0), 1);
        Due.due("15 change(0, 1)", x.change(0, 1), BAD);
        Due.due("15 change(1, 0)", x.change(1, 0), BAD);
        Due.due("15 change(1, 1)", x.change(1, 1), BAD);
        Due.turns("15 the only one", x, 0);
    }

    static void changeOfTheFirstAndTheLast() {
        TermLodgings x = Due.town(16);
        Due.due("15 change(0, 15)", x.change(0, 15), 1);
        Due.turns("15 change(0, 15)", x, 15, 1, 2, 3, 4, 5, 6, 7, 8, 9, 10, 11, 12, 13, 14, 0);
        Due.due("15 change(15, 14)", x.change(15, 14), 1);
        Due.turns("15 change(15, 14)", x, 15, 1, 2, 3, 4, 5, 6, 7, 8, 9, 10, 11, 12, 13, 0, 14);
        Due.due("15 change(16, 0)", x.change(16, 0), BAD);
        Due.due("15 change(0, 16)", x.change(0, 16), BAD);
    }

    static void changeOfOnePlace() {
        TermLodgings x = Due.town(3);
        Due.due("15 change(2, 2)", x.change(2, 2), 1);
        Due.turns("15 change(2, 2)", x, 0, 1, 2);
    }

    // ---- 16 turn

    static void turnOfNobody() {
        TermLodgings x = new TermLodgings();
        Due.due("16 turn(0)", x.turn(0), BAD);
        Due.due("16 turn(-1)", x.turn(-1), BAD);
    }

    static void turnOfAll() {
        TermLodgings x = Due.town(16);
        for (int i = 0; i < 16; i++) {
            Due.due("16 turn(" + i + ")", x.turn(i), i);
        }
        Due.due("16 turn(16)", x.turn(16), BAD);
        Due.due("16 turn(-1)", x.turn(-1), BAD);
    }

    static void turnOfOneMore() {
        TermLodgings x = Due.town(7);
        x.draw(2);
        x.person(1, NONE);
        Due.turns("16 one more", x, 3, 1, 0, 4, 2, 5, 6, 7);
    }

    // ---- 17 deal

    static void dealToNobody() {
        Due.due("17 nothing: deal()", new TermLodgings().deal(), 0);
        Due.due("17 nobody: deal()", Due.town(0, 0, 0).deal(), 0);
        Due.due("17 no ROOMS: deal()", Due.town(3).deal(), 0);
    }

    static void dealWithoutWishes() {
        TermLodgings x = housed(2, 0, 0, 0);
        Due.due("17 no WISHES: deal()", x.deal(), 0);
        Due.lodgings("17 no WISHES", x, NONE, NONE);
        Due.due("17 no WISHES: of(0, 3)", x.of(0, 3), NONE);
        Due.due("17 no WISHES: count(6)", x.count(6), 0);
    }

    static void dealTheEighthWish() {
        TermLodgings x = Due.town(8, new int[8]);
        for (int p = 0; p < 7; p++) {
            x.wish(p, p);
        }
        Due.wishes(x, 7, 0, 1, 2, 3, 4, 5, 6, 7);
        Due.due("17 the eighth WISH: deal()", x.deal(), 8);
        Due.lodgings("17 the eighth WISH", x, 0, 1, 2, 3, 4, 5, 6, 7);
        x.change(0, 7);
        Due.due("17 the last one first: deal()", x.deal(), 7);
        Due.lodgings("17 the last one first", x, NONE, 1, 2, 3, 4, 5, 6, 0);
    }

    static void dealToAll() {
        TermLodgings x = Due.town(16, new int[24]);
        for (int p = 0; p < 16; p++) {
            x.wish(p, 23 - p);
        }
        Due.due("17 all: deal()", x.deal(), 16);
        for (int p = 0; p < 16; p++) {
            Due.due("17 all: about(" + p + ", 3)", x.about(p, 3), 23 - p);
        }
    }

    static void dealToAllAsOneGroup() {
        TermLodgings x = groups(houses(8, 1, 2), new int[16]);
        x.wish(0, 23);
        Due.due("17 a GROUP of 16, 16 ROOMS: deal()", x.deal(), 16);
        for (int p = 0; p < 16; p++) {
            Due.due("17 a GROUP of 16: about(" + p + ", 3)", x.about(p, 3), 8 + p);
        }
    }

    static void dealToAGroupOneRoomShort() {
        TermLodgings x = groups(houses(15, 1, 2), new int[16]);
        Due.wishes(x, 0, 0, 23);
        Due.wishes(x, 1, 0, 22);
        x.wish(15, 5);
        Due.due("17 a GROUP of 16, 15 ROOMS: deal()", x.deal(), 3);
        Due.lodgings("17 a GROUP of 16, 15 ROOMS", x, 0, 22, NONE);
        Due.due("17 a GROUP of 16, 15 ROOMS: about(15, 3)", x.about(15, 3), 5);
    }

    static void dealToAGroupThatJustFits() {
        int[] two = {0, 0, 1};
        TermLodgings x = groups(two, 3, 3);
        x.wish(0, 1);
        Due.due("17 two for two: deal()", x.deal(), 2);
        Due.lodgings("17 two for two", x, 0, 1);
        x.content(0);
        x.wish(0, 2);
        Due.due("17 two for one: deal()", x.deal(), 1);
        Due.lodgings("17 two for one", x, 2, NONE);
    }

    static void dealToAGroupTheNextHouse() {
        int[] rooms = {0, 1, 1, 2, 2};
        TermLodgings x = groups(rooms, 3, 3);
        Due.wishes(x, 0, 0, 4, 2);
        Due.due("17 the next HOUSE: deal()", x.deal(), 2);
        Due.lodgings("17 the next HOUSE", x, 3, 4);
    }

    static void dealToAGroupTheHouseOfTheEighthWish() {
        int[] rooms = {0, 1, 2, 3, 4, 5, 6, 7, 7};
        TermLodgings x = groups(rooms, 3, 3);
        Due.wishes(x, 0, 0, 1, 2, 3, 4, 5, 6, 8);
        Due.due("17 the eighth WISH's HOUSE: deal()", x.deal(), 2);
        Due.lodgings("17 the eighth WISH's HOUSE", x, 7, 8);
    }

    static void dealToAGroupWithoutWishesOfTheFirst() {
        int[] rooms = {0, 0, 0};
        TermLodgings x = groups(rooms, 3, 3);
        x.wish(1, 2);
        Due.due("17 the first has no WISHES: deal()", x.deal(), 1);
        Due.lodgings("17 the first has no WISHES", x, NONE, 2);
        x.change(0, 1);
        Due.due("17 the other one is first: deal()", x.deal(), 2);
        Due.lodgings("17 the other one is first", x, 0, 1);
    }

    static void dealToAGroupOnce() {
        int[] rooms = {0, 0, 1, 1, 1};
        TermLodgings x = groups(rooms, 3, NONE, 3);
        x.wish(0, 0);
        x.wish(1, 2);
        x.wish(2, 4);
        Due.due("17 one turn for all: deal()", x.deal(), 3);
        Due.lodgings("17 one turn for all", x, 0, 2, 1);
    }

    static void dealToAGroupByNumbersNotByTurns() {
        int[] rooms = {0, 0, 0};
        TermLodgings x = groups(rooms, 3, 3, 3);
        x.wish(2, 1);
        x.change(0, 2);
        Due.due("17 by numbers: deal()", x.deal(), 3);
        Due.lodgings("17 by numbers", x, 0, 1, 2);
    }

    static void dealToAGroupThoughTheWishIsTaken() {
        int[] rooms = {0, 0, 0, 1, 1};
        TermLodgings x = groups(rooms, NONE, 3, 3);
        x.wish(0, 1);
        Due.wishes(x, 1, 1, 3);
        Due.due("17 that WISH is taken: deal()", x.deal(), 3);
        Due.lodgings("17 that WISH is taken", x, 1, 0, 2);
    }

    static void dealToTheFirstAndTheLastGroup() {
        int[] rooms = {0, 0, 7, 7};
        TermLodgings x = groups(rooms, 0, 7, 0, 7);
        x.wish(0, 1);
        x.wish(1, 3);
        Due.due("17 GROUPS 0 and 7: deal()", x.deal(), 4);
        Due.lodgings("17 GROUPS 0 and 7", x, 0, 2, 1, 3);
    }

    static void dealToThoseWithoutAGroupOneByOne() {
        int[] rooms = {0, 0, 0};
        TermLodgings x = groups(rooms, NONE, NONE, NONE);
        x.wish(0, 1);
        x.wish(1, 1);
        x.wish(2, 2);
        Due.due("17 NONE is no GROUP: deal()", x.deal(), 2);
        Due.lodgings("17 NONE is no GROUP", x, 1, NONE, 2);
    }

    static void dealToOneAloneInAGroup() {
        for (int group : new int[] {0, 7}) {
            int[] rooms = {0, 0, 0};
            TermLodgings x = groups(rooms, group);
            x.wish(0, 2);
            Due.due("17 alone in GROUP " + group + ": deal()", x.deal(), 1);
            Due.lodgings("17 alone in GROUP " + group, x, 2);
        }
    }

    static void dealToAGroupWhatEachMayHave() {
        TermLodgings x = new TermLodgings();
        for (int sort : new int[] {3, 2, 1, 2, 1}) {
            x.room(4, 0, sort);
        }
        x.person(1, 2);
        x.person(2, 2);
        x.person(1, 2);
        x.wish(0, 0);
        Due.enact(x, "y=1&s=1|y=2&s=2");
        Due.due("17 each what is allowed: deal()", x.deal(), 3);
        Due.lodgings("17 each what is allowed", x, 2, 1, 4);
        Due.enact(x, "y=1&s=1|y=2&s=0");
        Due.due("17 one MAY have none: deal()", x.deal(), 0);
    }

    static void dealNothingOfAStruckHouse() {
        int[] rooms = {0, 0, 1, 1};
        TermLodgings x = groups(rooms, 3, 3, NONE);
        Due.wishes(x, 0, 0, 2);
        Due.wishes(x, 2, 1);
        x.strike(0);
        Due.due("17 a STRUCK HOUSE: deal()", x.deal(), 2);
        Due.lodgings("17 a STRUCK HOUSE", x, 2, 3, NONE);
    }

    static void dealToAGroupWithoutAHouseByNumbers() {
        int[] rooms = {0, 1, 2};
        TermLodgings x = groups(rooms, 3, 3, 3);
        Due.wishes(x, 0, 1);
        Due.wishes(x, 1, 1, 2);
        Due.wishes(x, 2, 2, 1, 0);
        x.change(0, 2);
        Due.due("17 no HOUSE: deal()", x.deal(), 3);
        Due.lodgings("17 no HOUSE", x, 1, 2, 0);
    }

    static void dealToThoseAwayToo() {
        TermLodgings x = Due.town(2, 0, 0);
        x.away(0, true);
        x.wish(0, 1);
        x.wish(1, 1);
        Due.due("17 0 is AWAY: deal()", x.deal(), 1);
        Due.lodgings("17 0 is AWAY", x, 1, NONE);
    }

    static void dealKeepsWishesAndTurns() {
        TermLodgings x = Due.town(3, 0, 0);
        Due.wishes(x, 0, 1, 0);
        Due.wishes(x, 1, 0, 1);
        x.change(0, 2);
        Due.due("17 deal()", x.deal(), 2);
        Due.due("17 once more: deal()", x.deal(), 2);
        Due.lodgings("17 once more", x, 1, 0, NONE);
        Due.turns("17 once more", x, 2, 1, 0);
    }

    // ---- 18 trade, 19 traded

    static void tradeOfNobody() {
        TermLodgings x = new TermLodgings();
        Due.due("18 nobody: trade()", x.trade(), 0);
        Due.traded("19 nobody", x, 0, 0, 0);
        x = Due.town(2, 0, 0);
        Due.wishes(x, 0, 0, 1);
        Due.due("18 nobody has a ROOM: trade()", x.trade(), 0);
        Due.traded("19 nobody has a ROOM", x, 0, 0, 0);
    }

    static void tradedBeforeAny() {
        TermLodgings x = housed(2, 0, 0);
        x.wish(0, 1);
        x.wish(1, 0);
        Due.traded("19 before any", x, 0, 0, 0);
        x.deal();
        x.draw(0);
        Due.traded("19 behind a DEAL", x, 0, 0, 0);
    }

    static void tradeOfOne() {
        TermLodgings x = housed(1, 0, 0);
        x.wish(0, 1);
        Due.due("18 one alone: trade()", x.trade(), 0);
        Due.traded("19 one alone", x, 0, 0, 1);
        Due.lodgings("18 one alone", x, 0);
    }

    static void tradeOfTwo() {
        TermLodgings x = housed(2, 0, 0);
        x.wish(0, 1);
        x.wish(1, 0);
        Due.due("18 two: trade()", x.trade(), 2);
        Due.traded("19 two", x, 1, 2, 1);
        Due.lodgings("18 two", x, 1, 0);
        Due.due("18 two: of(0, 3)", x.of(0, 3), 1);
        Due.due("18 two: of(1, 3)", x.of(1, 3), 0);
    }

    static void tradeInEightRings() {
        TermLodgings x = housed(16, new int[24]);
        for (int p = 0; p < 16; p++) {
            x.wish(p, p ^ 1);
        }
        Due.due("18 eight rings: trade()", x.trade(), 16);
        Due.traded("19 eight rings", x, 8, 2, 1);
    }

    static void tradeInOneRingOfAll() {
        TermLodgings x = housed(16, new int[24]);
        for (int p = 0; p < 16; p++) {
            x.wish(p, (p + 5) % 16);
        }
        Due.due("18 a ring of all: trade()", x.trade(), 16);
        Due.traded("19 a ring of all", x, 1, 16, 1);
        for (int p = 0; p < 16; p++) {
            Due.due("18 a ring of all: about(" + p + ", 3)", x.about(p, 3), (p + 5) % 16);
            Due.due("18 a ring of all: of(" + p + ", 3)", x.of(p, 3), (p + 11) % 16);
        }
    }

    static void tradeInAsManyRoundsAsPeople() {
        TermLodgings x = housed(16, new int[24]);
        for (int p = 0; p < 15; p++) {
            x.wish(p, p + 1);
        }
        Due.due("18 a queue: trade()", x.trade(), 0);
        Due.traded("19 a queue", x, 0, 0, 16);
    }

    static void tradedTheLongestOfAnEarlierRound() {
        TermLodgings x = housed(5, 0, 0, 0, 0, 0);
        x.wish(0, 1);
        x.wish(1, 2);
        x.wish(2, 0);
        Due.wishes(x, 3, 0, 4);
        x.wish(4, 3);
        Due.due("18 three, then two: trade()", x.trade(), 5);
        Due.traded("19 three, then two", x, 2, 3, 2);
    }

    static void tradedTheLongestOfALaterRound() {
        TermLodgings x = housed(5, 0, 0, 0, 0, 0);
        x.wish(0, 1);
        x.wish(1, 0);
        Due.wishes(x, 2, 0, 3);
        x.wish(3, 4);
        x.wish(4, 2);
        Due.due("18 two, then three: trade()", x.trade(), 5);
        Due.traded("19 two, then three", x, 2, 3, 2);
    }

    static void tradedOfTheLatestAlone() {
        TermLodgings x = housed(2, 0, 0);
        x.wish(0, 1);
        x.wish(1, 0);
        x.trade();
        Due.due("18 content: trade()", x.trade(), 0);
        Due.traded("19 content", x, 0, 0, 1);
        x.give(0, NONE);
        x.give(1, NONE);
        x.trade();
        Due.traded("19 nobody is left", x, 0, 0, 0);
    }

    static void tradeTheEighthWish() {
        TermLodgings x = Due.town(2, new int[9]);
        x.give(0, 8);
        x.give(1, 7);
        Due.wishes(x, 0, 0, 1, 2, 3, 4, 5, 6, 7);
        x.wish(1, 8);
        Due.due("18 the eighth WISH: trade()", x.trade(), 2);
        Due.lodgings("18 the eighth WISH", x, 7, 8);
    }

    static void tradeWhenTheOwnOneIsTheLastWish() {
        TermLodgings x = housed(2, 0, 0);
        Due.wishes(x, 0, 1, 0);
        Due.wishes(x, 1, 0, 1);
        Due.due("18 a dearer one: trade()", x.trade(), 2);
        Due.due("18 the dearest already: trade()", x.trade(), 0);
        Due.lodgings("18 the dearest already", x, 1, 0);
    }

    static void tradeNothingForALessDearOne() {
        TermLodgings x = housed(2, 0, 0);
        Due.wishes(x, 0, 0, 1);
        Due.wishes(x, 1, 0);
        Due.due("18 the own one is dearer: trade()", x.trade(), 0);
        Due.traded("19 the own one is dearer", x, 0, 0, 2);
    }

    static void tradeNothingWithoutWishes() {
        TermLodgings x = housed(2, 0, 0);
        Due.due("18 no WISHES: trade()", x.trade(), 0);
        Due.traded("19 no WISHES", x, 0, 0, 1);
    }

    static void tradeWithoutOneWhoMayNotLiveThere() {
        TermLodgings x = Due.town(0, 0, 1);
        x.person(1, NONE);
        x.person(2, NONE);
        x.give(0, 0);
        x.give(1, 1);
        x.wish(0, 1);
        x.wish(1, 0);
        Due.enact(x, "y=1|h=0");
        Due.due("18 1 MAY not live there: trade()", x.trade(), 0);
        Due.traded("19 1 MAY not live there", x, 0, 0, 1);
        Due.enact(x, "y=1|h=1");
        Due.due("18 1 MAY not have it: trade()", x.trade(), 0);
        Due.traded("19 1 MAY not have it", x, 0, 0, 2);
        Due.enact(x, "y=1|h=1&");
        Due.due("18 a FAULT: trade()", x.trade(), 2);
    }

    static void tradeTheNextWishWhenTheFirstHasLeft() {
        TermLodgings x = housed(3, 0, 0, 0);
        x.wish(0, 0);
        Due.wishes(x, 1, 0, 2);
        Due.wishes(x, 2, 0, 1);
        Due.due("18 the next WISH: trade()", x.trade(), 2);
        Due.traded("19 the next WISH", x, 1, 2, 2);
        Due.lodgings("18 the next WISH", x, 0, 2, 1);
    }

    static void tradeOfThoseAwayAndOfFriends() {
        int[] rooms = {0, 1, 2};
        TermLodgings x = groups(rooms, 3, 3, NONE);
        for (int p = 0; p < 3; p++) {
            x.give(p, p);
        }
        x.away(0, true);
        x.wish(0, 2);
        x.wish(2, 0);
        Due.due("18 0 is AWAY, 1 a friend: trade()", x.trade(), 2);
        Due.lodgings("18 0 is AWAY, 1 a friend", x, 2, 1, 0);
    }

    static void tradeDoesNotAskForTurns() {
        for (int seed = 0; seed < 5; seed++) {
            TermLodgings x = housed(3, 0, 0, 0);
            Due.wishes(x, 0, 1);
            Due.wishes(x, 1, 2, 0);
            Due.wishes(x, 2, 1);
            x.draw(seed);
            Due.due("18 draw(" + seed + "): trade()", x.trade(), 2);
            Due.lodgings("18 draw(" + seed + ")", x, 0, 2, 1);
        }
    }

    // ---- 20 strike

    static void strikeTheFirstAndTheLastHouse() {
        for (int house : new int[] {0, 7}) {
            TermLodgings x = housed(1, house, 3);
            Due.due("20 strike(" + house + ")", x.strike(house), 0);
            Due.lodgings("20 strike(" + house + ")", x, 1);
            Due.due("20 count(3)", x.count(3), 1);
            Due.due("20 strike(" + house + ") again", x.strike(house), NOT);
            Due.due("20 count(3)", x.count(3), 1);
        }
    }

    static void strikeAHouseWithoutAnything() {
        TermLodgings x = new TermLodgings();
        Due.due("20 no ROOMS: strike(3)", x.strike(3), 0);
        Due.due("20 count(3)", x.count(3), 1);
    }

    static void strikeAHouseWithNobodyIn() {
        TermLodgings x = housed(1, 0, 1);
        Due.due("20 nobody is in: strike(1)", x.strike(1), 0);
        Due.lodgings("20 nobody is in", x, 0);
    }

    static void strikeAllHouses() {
        TermLodgings x = housed(8, 0, 1, 2, 3, 4, 5, 6, 7);
        for (int house = 0; house < 8; house++) {
            Due.due("20 all are had: strike(" + house + ")", x.strike(house), 1);
            Due.due("20 count(3)", x.count(3), house + 1);
            Due.due("20 count(6)", x.count(6), 7 - house);
        }
        for (int house = 0; house < 8; house++) {
            Due.due("20 strike(" + house + ") again", x.strike(house), NOT);
        }
        Due.due("20 all STRUCK: deal()", x.deal(), 0);
    }

    static void strikeMovesOneToTheFirstRoom() {
        TermLodgings x = Due.town(1, 1, 0, 1);
        x.give(0, 1);
        Due.due("20 strike(0)", x.strike(0), 0);
        Due.lodgings("20 the first ROOM", x, 0);
        Due.due("20 of(1, 3)", x.of(1, 3), NONE);
        Due.due("20 of(0, 3)", x.of(0, 3), 0);
    }

    static void strikeMovesOneToTheLastRoom() {
        TermLodgings x = Due.town(16, houses(23, 0, 1));
        x.give(15, 5);
        Due.due("20 strike(0)", x.strike(0), 0);
        Due.due("20 the last ROOM: about(15, 3)", x.about(15, 3), 23);
    }

    static void strikeMovesNobodyWhereNothingIsLeft() {
        TermLodgings x = housed(3, 0, 0, 1);
        Due.due("20 nothing is left: strike(0)", x.strike(0), 2);
        Due.lodgings("20 nothing is left", x, NONE, NONE, 2);
    }

    static void strikeMovesNobodyIntoAStruckHouse() {
        TermLodgings x = Due.town(1, 0, 0, 1, 2);
        x.give(0, 0);
        x.strike(1);
        Due.due("20 strike(0)", x.strike(0), 0);
        Due.lodgings("20 neither HOUSE 0 nor 1", x, 3);
    }

    static void strikeMovesNobodyAgainstTheStatute() {
        TermLodgings x = Due.town(1, 0, 1, 2);
        x.give(0, 0);
        Due.enact(x, "h=0|h=2");
        Due.due("20 strike(0)", x.strike(0), 0);
        Due.lodgings("20 by the STATUTE", x, 2);
        Due.due("20 strike(2)", x.strike(2), 1);
        Due.lodgings("20 by the STATUTE", x, NONE);
    }

    static void strikeMovesTheFirstByNumber() {
        TermLodgings x = Due.town(3, 0, 0, 0, 1, 1);
        x.give(2, 0);
        x.give(1, 1);
        x.give(0, 2);
        Due.due("20 three for two: strike(0)", x.strike(0), 1);
        Due.lodgings("20 three for two", x, 3, 4, NONE);
    }

    static void strikeMovesAsManyAsCanBeBeforeTheLeast() {
        TermLodgings x = Due.town(0, 0, 0, 1, 2);
        x.person(1, NONE);
        x.person(2, NONE);
        x.give(0, 0);
        x.give(1, 1);
        Due.enact(x, "y=1|h<2");
        Due.due("20 both can be moved: strike(0)", x.strike(0), 0);
        Due.lodgings("20 both can be moved", x, 3, 2);
    }

    static void strikeMovesOneLessWhereBothCannotBe() {
        TermLodgings x = Due.town(0, 0, 0, 0, 1, 2);
        x.person(2, NONE);
        x.person(2, NONE);
        x.person(1, NONE);
        for (int p = 0; p < 3; p++) {
            x.give(p, p);
        }
        Due.enact(x, "y=1|h<2");
        Due.due("20 two for one, one more elsewhere: strike(0)", x.strike(0), 1);
        Due.lodgings("20 two for one, one more elsewhere", x, 3, NONE, 4);
    }

    static void strikeMovesTwelveIntoTwelve() {
        // of 24 ROOMS no more than 12 can be lost where all who lose one get another
        TermLodgings x = Due.town(16, houses(12, 0, 1));
        for (int p = 0; p < 12; p++) {
            x.give(15 - p, p);
        }
        Due.due("20 twelve for twelve: strike(0)", x.strike(0), 0);
        for (int p = 0; p < 16; p++) {
            Due.due("20 twelve for twelve: about(" + p + ", 3)", x.about(p, 3), p < 4 ? NONE : 8 + p);
        }
    }

    static void strikeLeavesTheOthers() {
        TermLodgings x = housed(3, 0, 1, 2, 3);
        Due.enact(x, "h=0|h=3");
        Due.due("20 strike(0)", x.strike(0), 0);
        Due.lodgings("20 who is elsewhere stays, wrong or not", x, 3, 1, 2);
    }

    static void strikeMovesThoseAway() {
        TermLodgings x = housed(1, 0, 1);
        x.away(0, true);
        Due.due("20 AWAY: strike(0)", x.strike(0), 0);
        Due.lodgings("20 AWAY", x, 1);
        Due.due("20 AWAY still: about(0, 4)", x.about(0, 4), 1);
    }

    static void strikeDoesNotAskForWishesTurnsOrFriends() {
        int[] rooms = {0, 0, 1, 2, 3};
        TermLodgings x = groups(rooms, 5, 5);
        x.give(0, 0);
        x.give(1, 1);
        Due.wishes(x, 0, 4, 3);
        Due.wishes(x, 1, 4);
        x.change(0, 1);
        Due.due("20 WISHES, TURNS, a GROUP: strike(0)", x.strike(0), 0);
        Due.lodgings("20 WISHES, TURNS, a GROUP", x, 2, 3);
    }

    // ---- 21 license

    static void licenseTheFirstAndTheLastHouse() {
        for (int house : new int[] {0, 7}) {
            TermLodgings x = housed(1, house);
            Due.due("21 license(" + house + ")", x.license(house), NOT);
            x.strike(house);
            Due.due("21 STRUCK: license(" + house + ")", x.license(house), 1);
            Due.due("21 LICENSED: count(3)", x.count(3), 0);
            Due.due("21 LICENSED: license(" + house + ")", x.license(house), NOT);
            Due.lodgings("21 nobody comes back", x, NONE);
            Due.due("21 LICENSED: give(0, 0)", x.give(0, 0), NONE);
            Due.due("21 LICENSED: strike(" + house + ")", x.strike(house), 1);
        }
    }

    static void licenseOneOfAll() {
        TermLodgings x = new TermLodgings();
        for (int house = 0; house < 8; house++) {
            x.strike(house);
        }
        Due.due("21 license(3)", x.license(3), 1);
        Due.due("21 count(3)", x.count(3), 7);
        for (int house = 0; house < 8; house++) {
            Due.due("21 strike(" + house + ")", x.strike(house), house == 3 ? 0 : NOT);
        }
    }
}
