/** Promises 14 to 21: TURNS, DEALS, TRADES, STRIKING. */
public final class BallotsTest {
    private static final int NONE = TermLodgings.NONE, BAD = TermLodgings.BAD, NOT = TermLodgings.NOT;

    public static void main(String[] args) {
        draw();
        change();
        turn();
        dealToSingles();
        dealBySuiting();
        dealToGroups();
        dealToGroupsWithoutARoof();
        trade();
        tradeOnlyWhatSuits();
        tradeByRounds();
        traded();
        strike();
        strikeMovesAsManyAsCanBe();
        strikeMovesNoMoreThanCanBe();
        strikeMovesTheFirstToTheLeast();
        strikeAtTheLimits();
        license();
        Due.finish();
    }

    /** The document's drawing, worked out with longs. */
    private static int[] drawn(int people, int seed) {
        int[] row = new int[people];
        for (int i = 0; i < people; i++) {
            row[i] = i;
        }
        long s = seed & 0xFFFFFFFFL;
        for (int i = people - 1; i >= 1; i--) {
            s = (1103515245L * s + 12345L) & 0xFFFFFFFFL;
            int j = (int) ((s >> 16) % (i + 1));
            int kept = row[i];
            row[i] = row[j];
            row[j] = kept;
        }
        return row;
    }

    private static void draw() {
        Due.due("14 nobody: draw(5)", new TermLodgings().draw(5), NONE);
        int[] seeds = {0, 1, 7, -1, 12345, -987654321, Integer.MIN_VALUE, Integer.MAX_VALUE};
        for (int people = 1; people <= 16; people++) {
            TermLodgings x = Due.town(people, 0);
            for (int seed : seeds) {
                int[] due = drawn(people, seed);
                Due.due("14 draw(" + seed + ")", x.draw(seed), due[0]);
                Due.turns("14 draw(" + seed + ")", x, due);
            }
        }
    }

    private static void change() {
        TermLodgings x = Due.town(3, 0);
        Due.due("15 change(-1, 0)", x.change(-1, 0), BAD);
        Due.due("15 change(0, -1)", x.change(0, -1), BAD);
        Due.due("15 change(3, 0)", x.change(3, 0), BAD);
        Due.due("15 change(0, 3)", x.change(0, 3), BAD);
        Due.turns("15 refused", x, 0, 1, 2);
        Due.due("15 change(0, 2)", x.change(0, 2), 1);
        Due.turns("15 change(0, 2)", x, 2, 1, 0);
        Due.due("15 change(1, 1)", x.change(1, 1), 1);
        Due.due("15 change(1, 0)", x.change(1, 0), 1);
        Due.turns("15 change(1, 0)", x, 1, 2, 0);
    }

    private static void turn() {
        TermLodgings x = Due.town(0, 0);
        Due.turns("16 nobody", x);
        Due.due("16 turn(-1)", x.turn(-1), BAD);
        x.person(1, NONE);
        x.person(1, NONE);
        Due.turns("16 as numbered", x, 0, 1);
        x.change(0, 1);
        x.person(1, NONE);
        Due.turns("16 one more", x, 1, 0, 2);
        Due.due("16 turn(-1)", x.turn(-1), BAD);
    }

    private static void dealToSingles() {
        TermLodgings x = Due.town(4, 0, 0, 0, 0);
        Due.wishes(x, 0, 1, 0);
        Due.wishes(x, 1, 1, 0, 2);
        Due.wishes(x, 2, 1, 0);
        x.give(3, 1);
        Due.due("17 deal()", x.deal(), 2);
        Due.lodgings("17 deal()", x, 1, 0, NONE, NONE);
        Due.due("17 dealt: of(1, 3)", x.of(1, 3), 0);
        Due.due("17 dealt: of(2, 3)", x.of(2, 3), NONE);
        x.change(0, 2);
        Due.due("17 other turns: deal()", x.deal(), 2);
        Due.lodgings("17 other turns", x, NONE, 0, 1, NONE);
        x.content(1);
        Due.due("17 other wishes: deal()", x.deal(), 2);
        Due.lodgings("17 other wishes", x, 0, NONE, 1, NONE);
    }

    private static void dealBySuiting() {
        TermLodgings x = Due.town(2, 0, 1, 2);
        Due.wishes(x, 0, 0, 1, 2);
        Due.wishes(x, 1, 1, 0, 2);
        Due.enact(x, "h>0");
        Due.due("17 h>0: deal()", x.deal(), 2);
        Due.lodgings("17 h>0", x, 1, 2);
        x.strike(1);
        Due.due("17 STRUCK: deal()", x.deal(), 1);
        Due.lodgings("17 STRUCK", x, 2, NONE);
        Due.enact(x, "h=5");
        Due.due("17 nothing suits: deal()", x.deal(), 0);
    }

    private static void dealToGroups() {
        TermLodgings x = new TermLodgings();
        for (int house : new int[] {0, 1, 1, 0, 1, 2}) {
            x.room(house, 0, house == 1 ? 1 : 0);
        }
        x.person(1, NONE);
        x.person(2, 0);
        x.person(3, 5);
        x.person(1, 0);
        Due.wishes(x, 0, 2);
        Due.wishes(x, 1, 5, 2, 0);
        Due.wishes(x, 2, 1, 3);
        Due.wishes(x, 3, 0);
        Due.due("17 one roof: deal()", x.deal(), 4);
        // 0 took ROOM 2, so that HOUSE 1, of 1's second WISH, still has the ROOMS 1 and 4
        Due.lodgings("17 one roof", x, 2, 1, 3, 4);
        x.change(0, 3);
        Due.due("17 another of the group first: deal()", x.deal(), 4);
        Due.lodgings("17 another of the group first", x, 2, 0, 1, 3);
        Due.enact(x, "y>1|h=1&s=1");
        Due.due("17 least that suits each: deal()", x.deal(), 3);
        // HOUSE 0 does not suit 3, so each gets a WISH: only 1 has one that suits
        Due.lodgings("17 least that suits each", x, 2, 5, 1, NONE);
    }

    private static void dealToGroupsWithoutARoof() {
        // taken by numbers, each the least: 0 takes ROOM 0, the only one that suits 1
        TermLodgings x = new TermLodgings();
        x.room(0, 1, 0);
        x.room(0, 2, 0);
        x.room(1, 9, 0);
        x.person(1, 3);
        x.person(2, 3);
        Due.wishes(x, 0, 1, 2);
        Due.wishes(x, 1, 0, 1);
        Due.enact(x, "y=1|m=1");
        Due.due("17 by numbers, no other way: deal()", x.deal(), 2);
        Due.lodgings("17 by numbers, no other way", x, 1, 0);
        x.change(0, 1);
        Due.wishes(x, 0, 0);
        Due.wishes(x, 1, 0);
        Due.due("17 wishes by numbers: deal()", x.deal(), 1);
        Due.lodgings("17 wishes by numbers", x, 0, NONE);
        x.repeal();
        Due.due("17 a roof for both: deal()", x.deal(), 2);
        Due.lodgings("17 a roof for both", x, 0, 1);
        aloneInAGroup();
    }

    private static void aloneInAGroup() {
        TermLodgings x = Due.town(0, 0, 0);
        x.person(1, 4);
        x.person(1, 3);
        Due.wishes(x, 0, 1);
        Due.due("17 alone in a group: deal()", x.deal(), 1);
        Due.lodgings("17 alone in a group", x, 1, NONE);
    }

    private static TermLodgings ringOfThree() {
        TermLodgings x = Due.town(5, 0, 0, 0, 0, 0);
        for (int p = 0; p < 5; p++) {
            x.give(p, p);
        }
        Due.wishes(x, 0, 1);
        Due.wishes(x, 1, 2);
        Due.wishes(x, 2, 0);
        Due.wishes(x, 3, 4);
        Due.wishes(x, 4, 3);
        return x;
    }

    private static void trade() {
        TermLodgings x = ringOfThree();
        Due.due("18 two rings: trade()", x.trade(), 5);
        Due.lodgings("18 two rings", x, 1, 2, 0, 4, 3);
        for (int room = 0; room < 5; room++) {
            Due.due("18 two rings: about(of(" + room + ", 3), 3)", x.about(x.of(room, 3), 3), room);
        }
        Due.due("18 two rings again: trade()", x.trade(), 0);
        Due.lodgings("18 two rings again", x, 1, 2, 0, 4, 3);
        x = Due.town(3, 0, 0, 0);
        x.give(0, 0);
        x.give(1, 1);
        Due.wishes(x, 0, 2, 1);
        Due.wishes(x, 1, 0, 1);
        Due.due("18 nobody has the dearest: trade()", x.trade(), 2);
        Due.lodgings("18 nobody has the dearest", x, 1, 0, NONE);
        Due.wishes(x, 0, 1, 0);
        Due.due("18 the own one is dearer: trade()", x.trade(), 0);
        Due.wishes(x, 1, 1, 0);
        Due.wishes(x, 0, 2);
        Due.due("18 only one of two wants: trade()", x.trade(), 0);
        Due.wishes(x, 0, 2, 0, 1);
        Due.due("18 the own one behind a wish: trade()", x.trade(), 2);
        Due.lodgings("18 the own one behind a wish", x, 0, 1, NONE);
    }

    private static void tradeOnlyWhatSuits() {
        TermLodgings x = Due.town(0, 0, 1, 2);
        x.person(1, NONE);
        x.person(2, NONE);
        x.person(3, NONE);
        for (int p = 0; p < 3; p++) {
            x.give(p, p);
        }
        Due.wishes(x, 0, 1, 2);
        Due.wishes(x, 1, 0);
        Due.wishes(x, 2, 0);
        Due.enact(x, "y=1&h=0|y=1&h=2|y>1");
        Due.due("18 the dearest does not suit: trade()", x.trade(), 2);
        Due.lodgings("18 the dearest does not suit", x, 2, 1, 0);
        Due.enact(x, "y=1&h<2|y>1");
        Due.wishes(x, 0, 0);
        Due.wishes(x, 2, 2);
        Due.due("18 one MAY not live there: trade()", x.trade(), 0);
        // 1 points at 2, who points at nobody else
        Due.due("18 one MAY not live there: traded(2)", x.traded(2), 2);
        Due.lodgings("18 one MAY not live there", x, 2, 1, 0);
    }

    private static void tradeByRounds() {
        TermLodgings x = Due.town(4, 0, 0, 0, 0);
        for (int p = 0; p < 4; p++) {
            x.give(p, p);
        }
        Due.wishes(x, 0, 1, 2, 3);
        Due.wishes(x, 1, 1);
        Due.wishes(x, 2, 1, 3, 0);
        Due.wishes(x, 3, 0);
        // 1 leaves, then 0 -> 2 -> 3 -> 0
        Due.due("18 rounds: trade()", x.trade(), 3);
        Due.lodgings("18 rounds", x, 2, 1, 3, 0);
        Due.due("19 rounds: traded(0)", x.traded(0), 1);
        Due.due("19 rounds: traded(1)", x.traded(1), 3);
        Due.due("19 rounds: traded(2)", x.traded(2), 2);
        sixteenTrade();
    }

    private static void sixteenTrade() {
        TermLodgings ring = Due.town(16, new int[24]);
        TermLodgings queue = Due.town(16, new int[24]);
        for (int p = 0; p < 16; p++) {
            ring.give(p, p + 8);
            queue.give(p, p);
            ring.wish(p, (p + 1) % 16 + 8);
            queue.wish(p, Math.max(0, p - 1));
        }
        Due.due("18 a ring of 16: trade()", ring.trade(), 16);
        Due.due("19 a ring of 16: traded(0)", ring.traded(0), 1);
        Due.due("19 a ring of 16: traded(1)", ring.traded(1), 16);
        Due.due("19 a ring of 16: traded(2)", ring.traded(2), 1);
        Due.due("18 a queue of 16: trade()", queue.trade(), 0);
        Due.due("19 a queue of 16: traded(0)", queue.traded(0), 0);
        Due.due("19 a queue of 16: traded(1)", queue.traded(1), 0);
        Due.due("19 a queue of 16: traded(2)", queue.traded(2), 16);
    }

    private static void traded() {
        TermLodgings x = ringOfThree();
        for (int what = 0; what < 3; what++) {
            Due.due("19 before any: traded(" + what + ")", x.traded(what), 0);
        }
        x.trade();
        Due.due("19 traded(0)", x.traded(0), 2);
        Due.due("19 traded(1)", x.traded(1), 3);
        Due.due("19 traded(2)", x.traded(2), 1);
        Due.due("19 traded(-1)", x.traded(-1), BAD);
        Due.due("19 traded(3)", x.traded(3), BAD);
        x.deal();
        Due.due("19 behind a deal: traded(0)", x.traded(0), 2);
        x.trade();
        Due.due("19 the latest: traded(0)", x.traded(0), 0);
        Due.due("19 the latest: traded(1)", x.traded(1), 0);
        Due.due("19 the latest: traded(2)", x.traded(2), 1);
        for (int p = 0; p < 5; p++) {
            x.give(p, NONE);
        }
        Due.due("18 nobody has a room: trade()", x.trade(), 0);
        Due.due("19 nobody has a room: traded(2)", x.traded(2), 0);
    }

    private static void strike() {
        TermLodgings x = Due.town(3, 0, 1, 0, 2);
        x.give(0, 0);
        x.give(1, 1);
        x.give(2, 2);
        Due.due("20 strike(-1)", x.strike(-1), BAD);
        Due.due("20 strike(8)", x.strike(8), BAD);
        Due.due("20 strike(0)", x.strike(0), 1);
        Due.lodgings("20 strike(0)", x, 3, 1, NONE);
        Due.due("20 struck: of(0, 3)", x.of(0, 3), NONE);
        Due.due("20 struck: of(3, 3)", x.of(3, 3), 0);
        Due.due("20 struck: count(3)", x.count(3), 1);
        Due.due("20 strike(0) again", x.strike(0), NOT);
        Due.due("20 a house without rooms: strike(7)", x.strike(7), 0);
        Due.due("20 struck: count(3)", x.count(3), 2);
        Due.due("20 no room is left: strike(2)", x.strike(2), 1);
        Due.lodgings("20 no room is left", x, NONE, 1, NONE);
    }

    private static void strikeMovesAsManyAsCanBe() {
        // the least ROOM of 0 is the only one of 1, the least of 1's then the only one of 2
        TermLodgings x = new TermLodgings();
        for (int n = 0; n < 3; n++) {
            x.room(0, 0, 0);
        }
        for (int sort = 1; sort <= 3; sort++) {
            x.room(1, sort, sort);
        }
        for (int year = 1; year <= 3; year++) {
            x.person(year, NONE);
            x.give(year - 1, year - 1);
        }
        Due.enact(x, "h=0|y=1|y=2&s<3|y=3&s=1");
        Due.due("20 a chain: strike(0)", x.strike(0), 0);
        Due.lodgings("20 a chain", x, 5, 4, 3);
    }

    private static void strikeMovesNoMoreThanCanBe() {
        // 0 may go anywhere, but 1 and 2 want the same ROOM: a second change of 0's ROOM helps nobody
        TermLodgings x = Due.town(0, 1, 2, 3, 0, 0, 0);
        x.person(1, NONE);
        x.person(2, NONE);
        x.person(2, NONE);
        for (int p = 0; p < 3; p++) {
            x.give(p, 3 + p);
        }
        Due.enact(x, "h=0|y=1|h=1");
        Due.due("20 two for one room: strike(0)", x.strike(0), 1);
        Due.lodgings("20 two for one room", x, 1, 0, NONE);
    }

    private static void strikeMovesTheFirstToTheLeast() {
        // one of three gets the one ROOM: the first by number whom it suits
        TermLodgings x = Due.town(0, 0, 0, 0, 1);
        x.person(1, NONE);
        x.person(2, NONE);
        x.person(2, NONE);
        x.give(0, 2);
        x.give(1, 1);
        x.give(2, 0);
        Due.enact(x, "h=0|y=2");
        Due.due("20 the first whom it suits: strike(0)", x.strike(0), 2);
        Due.lodgings("20 the first whom it suits", x, NONE, 3, NONE);
        // all get one: the least for the first, though 1 had less to choose from
        x = Due.town(2, 1, 2, 3, 0, 0);
        x.give(0, 4);
        x.give(1, 3);
        Due.due("20 the least first: strike(0)", x.strike(0), 0);
        Due.lodgings("20 the least first", x, 0, 1);
        // as many either way: 0 takes the ROOM that 1 could have had
        x = Due.town(0, 0, 0, 1, 2);
        x.person(1, NONE);
        x.person(2, NONE);
        x.give(0, 0);
        x.give(1, 1);
        Due.enact(x, "h=0|h=1|y=1&h=2");
        Due.due("20 0 must leave the least: strike(0)", x.strike(0), 0);
        Due.lodgings("20 0 must leave the least", x, 3, 2);
    }

    private static void strikeAtTheLimits() {
        // 16 movers, 8 ROOMS: the first eight get them as numbered
        int[] houses = new int[24];
        for (int room = 16; room < 24; room++) {
            houses[room] = 7;
        }
        TermLodgings x = Due.town(16, houses);
        for (int p = 0; p < 16; p++) {
            x.give(p, 15 - p);
        }
        Due.due("20 sixteen for eight: strike(0)", x.strike(0), 8);
        for (int p = 0; p < 16; p++) {
            Due.due("20 sixteen for eight: about(" + p + ", 3)", x.about(p, 3), p < 8 ? 16 + p : NONE);
        }
    }

    private static void license() {
        TermLodgings x = Due.town(1, 3, 4);
        x.give(0, 0);
        Due.due("21 license(-1)", x.license(-1), BAD);
        Due.due("21 license(8)", x.license(8), BAD);
        Due.due("21 license(3)", x.license(3), NOT);
        x.strike(3);
        Due.due("21 license(4)", x.license(4), NOT);
        Due.due("21 license(3)", x.license(3), 1);
        Due.due("21 licensed: count(3)", x.count(3), 0);
        Due.due("21 licensed: may(0, 0)", x.may(0, 0), 1);
        Due.lodgings("21 moved ones stay", x, 1);
        Due.due("21 license(3) again", x.license(3), NOT);
        Due.due("21 strike(3) again", x.strike(3), 0);
        Due.due("21 strike(0)", x.strike(0), 0);
        Due.due("21 license(0)", x.license(0), 1);
        x.strike(7);
        Due.due("21 license(7)", x.license(7), 1);
    }
}
