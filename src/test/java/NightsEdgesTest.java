import java.math.BigInteger;

/** Promises 22 to 30 at the edges: the first and the last NIGHT, lists that are empty and full, sums that wrap. */
public final class NightsEdgesTest {
    private static final int NONE = TermLodgings.NONE, BAD = TermLodgings.BAD, FULL = TermLodgings.FULL;

    public static void main(String[] args) throws IllegalAccessException {
        Due.runAll(NightsEdgesTest.class);
    }

    /** So many PEOPLE, who have the ROOMS of as many as there are, all of HOUSE 0. */
    private static TermLodgings housed(int people) {
        TermLodgings x = Due.town(people, new int[people]);
        for (int p = 0; p < people; p++) {
            x.give(p, p);
        }
        return x;
    }

    private static void pricesAre(String call, TermLodgings x, int house, int[][] due) {
        for (int[] row : due) {
            Due.due(call + ": priced(" + house + ", " + row[0] + ")", x.priced(house, row[0]), row[1]);
        }
    }

    // ---- 22 away

    static void awayOfTheFirstAndTheLast() {
        TermLodgings x = housed(16);
        Due.due("22 away(0, true)", x.away(0, true), 1);
        Due.due("22 away(15, true)", x.away(15, true), 1);
        Due.due("22 away(16, true)", x.away(16, true), BAD);
        x.pass(1);
        for (int p = 0; p < 16; p++) {
            boolean gone = p == 0 || p == 15;
            Due.due("22 about(" + p + ", 4)", x.about(p, 4), gone ? 1 : 0);
            Due.due("22 about(" + p + ", 5)", x.about(p, 5), gone ? 0 : 1);
        }
    }

    static void awayTwiceAndBackTwice() {
        TermLodgings x = housed(1);
        Due.due("22 at first: away(0, false)", x.away(0, false), 1);
        Due.due("22 about(0, 4)", x.about(0, 4), 0);
        Due.due("22 away(0, true)", x.away(0, true), 1);
        Due.due("22 again: away(0, true)", x.away(0, true), 1);
        Due.due("22 about(0, 4)", x.about(0, 4), 1);
        Due.due("22 away(0, false)", x.away(0, false), 1);
        Due.due("22 again: away(0, false)", x.away(0, false), 1);
        Due.due("22 about(0, 4)", x.about(0, 4), 0);
    }

    static void awayWithoutARoom() {
        TermLodgings x = Due.town(1);
        Due.due("22 away(0, true)", x.away(0, true), 1);
        x.pass(1);
        Due.due("22 about(0, 5)", x.about(0, 5), 0);
        Due.due("22 had(0, 0)", x.had(0, 0), NONE);
    }

    static void awayIsForTheNightsThatFollow() {
        TermLodgings x = housed(1);
        x.price(0, 0, 7);
        x.pass(1);
        x.away(0, true);
        x.pass(1);
        x.away(0, false);
        x.pass(1);
        Due.due("22 KEPT: about(0, 5)", x.about(0, 5), 2);
        Due.due("22 AWAY, had all the same: had(0, 1)", x.had(0, 1), 0);
        Due.due("22 AWAY, billed all the same: bill(0)", x.bill(0), 21);
    }

    // ---- 23 pass

    static void passTheLeast() {
        TermLodgings x = housed(1);
        Due.due("23 pass(1)", x.pass(1), 1);
        Due.due("23 count(4)", x.count(4), 1);
        Due.due("23 about(0, 5)", x.about(0, 5), 1);
    }

    static void passTheGreatest() {
        TermLodgings x = housed(1);
        Due.due("23 pass(60)", x.pass(60), 60);
        Due.due("23 about(0, 5)", x.about(0, 5), 60);
        Due.due("23 pass(1)", x.pass(1), FULL);
        Due.due("23 pass(60)", x.pass(60), FULL);
        Due.due("23 pass(61)", x.pass(61), BAD);
        Due.due("23 pass(0)", x.pass(0), BAD);
        Due.due("23 count(4)", x.count(4), 60);
        Due.due("23 about(0, 5)", x.about(0, 5), 60);
    }

    static void passJustWhatIsLeft() {
        for (int passed = 1; passed < 60; passed++) {
            TermLodgings x = housed(1);
            Due.due("23 pass(" + passed + ")", x.pass(passed), passed);
            Due.due("23 one too many: pass(" + (61 - passed) + ")", x.pass(61 - passed), FULL);
            Due.due("23 refused: count(4)", x.count(4), passed);
            Due.due("23 refused: about(0, 5)", x.about(0, 5), passed);
            Due.due("23 what is left: pass(" + (60 - passed) + ")", x.pass(60 - passed), 60);
        }
    }

    static void passOneByOne() {
        TermLodgings x = housed(2);
        for (int night = 0; night < 60; night++) {
            Due.due("23 pass(1)", x.pass(1), night + 1);
            Due.due("23 had(1, " + night + ")", x.had(1, night), 1);
        }
        Due.due("23 pass(1)", x.pass(1), FULL);
    }

    static void passWithNobody() {
        TermLodgings x = new TermLodgings();
        Due.due("23 nobody: pass(60)", x.pass(60), 60);
        Due.due("23 nobody: pass(1)", x.pass(1), FULL);
    }

    static void passOfOneWhoMayNotLiveThere() {
        TermLodgings x = housed(1);
        x.price(0, 0, 5);
        Due.enact(x, "y=9");
        Due.due("23 wrong()", x.wrong(), 1);
        x.pass(2);
        Due.due("23 KEPT all the same: about(0, 5)", x.about(0, 5), 2);
        Due.due("23 had all the same: had(0, 1)", x.had(0, 1), 0);
        Due.due("23 billed all the same: bill(0)", x.bill(0), 10);
    }

    static void passKeepsWhatWasKeptBefore() {
        TermLodgings x = Due.town(1, 0, 1);
        x.give(0, 0);
        x.pass(2);
        x.give(0, 1);
        x.pass(3);
        Due.due("23 in two ROOMS: about(0, 5)", x.about(0, 5), 5);
        x.give(0, NONE);
        x.pass(4);
        Due.due("23 then in none: about(0, 5)", x.about(0, 5), 5);
    }

    // ---- 24 price

    static void priceOfTheLeast() {
        TermLodgings x = new TermLodgings();
        Due.due("24 price(0, 0, 0)", x.price(0, 0, 0), 1);
        Due.due("24 count(5)", x.count(5), 1);
        Due.due("24 priced(0, 0)", x.priced(0, 0), 0);
    }

    static void priceOfTheGreatest() {
        TermLodgings x = new TermLodgings();
        Due.due("24 price(7, 59, 999)", x.price(7, 59, 999), 1);
        pricesAre("24 the greatest", x, 7, new int[][] {{0, 0}, {58, 0}, {59, 999}});
        pricesAre("24 the greatest, another HOUSE", x, 6, new int[][] {{0, 0}, {59, 0}});
    }

    static void priceFortyTimesOfOneHouse() {
        TermLodgings x = new TermLodgings();
        for (int n = 1; n <= 40; n++) {
            Due.due("24 price(3, " + (n + 10) + ", " + n + ")", x.price(3, n + 10, n), n);
        }
        Due.due("24 a 41st: price(3, 0, 5)", x.price(3, 0, 5), FULL);
        Due.due("24 a 41st: price(4, 0, 5)", x.price(4, 0, 5), FULL);
        Due.due("24 a 41st that is BAD: price(3, 0, 1000)", x.price(3, 0, 1000), BAD);
        Due.due("24 a 41st that is BAD: price(3, 60, 5)", x.price(3, 60, 5), BAD);
        Due.due("24 a 41st that is BAD: price(8, 0, 5)", x.price(8, 0, 5), BAD);
        Due.due("24 count(5)", x.count(5), 40);
        pricesAre("24 forty", x, 3, new int[][] {{0, 0}, {10, 0}, {11, 1}, {30, 20}, {50, 40}, {59, 40}});
        pricesAre("24 forty", x, 4, new int[][] {{0, 0}, {59, 0}});
    }

    static void priceFortyTimesOfAllHouses() {
        TermLodgings x = new TermLodgings();
        for (int n = 0; n < 40; n++) {
            Due.due("24 price(" + n % 8 + ", 59, " + n + ")", x.price(n % 8, 59, n), n + 1);
        }
        Due.due("24 a 41st: price(0, 59, 99)", x.price(0, 59, 99), FULL);
        for (int house = 0; house < 8; house++) {
            Due.due("24 priced(" + house + ", 59)", x.priced(house, 59), 32 + house);
        }
    }

    static void priceFortyTimesAlike() {
        TermLodgings x = new TermLodgings();
        for (int n = 1; n <= 40; n++) {
            Due.due("24 alike: price(0, 0, " + n + ")", x.price(0, 0, n), n);
            Due.due("25 alike: priced(0, 0)", x.priced(0, 0), n);
            Due.due("25 alike: priced(0, 59)", x.priced(0, 59), n);
        }
        Due.due("24 alike: a 41st", x.price(0, 0, 41), FULL);
        Due.due("25 alike: priced(0, 0)", x.priced(0, 0), 40);
    }

    static void priceOfAStruckHouseAndANightThatPassed() {
        TermLodgings x = new TermLodgings();
        x.strike(2);
        x.pass(60);
        Due.due("24 price(2, 0, 5)", x.price(2, 0, 5), 1);
        Due.due("25 priced(2, 0)", x.priced(2, 0), 5);
    }

    // ---- 25 priced

    static void pricedWithoutATelling() {
        TermLodgings x = new TermLodgings();
        x.price(4, 30, 8);
        for (int house : new int[] {0, 3, 5, 7}) {
            pricesAre("25 another HOUSE", x, house, new int[][] {{0, 0}, {30, 0}, {59, 0}});
        }
        pricesAre("25 before it is told for", x, 4, new int[][] {{0, 0}, {29, 0}, {30, 8}, {31, 8}, {59, 8}});
    }

    static void pricedOfTheFirstAndTheLastNight() {
        TermLodgings x = new TermLodgings();
        x.price(0, 0, 1);
        x.price(0, 59, 2);
        pricesAre("25 first and last", x, 0, new int[][] {{0, 1}, {58, 1}, {59, 2}});
        Due.due("25 priced(0, -1)", x.priced(0, -1), BAD);
        Due.due("25 priced(0, 60)", x.priced(0, 60), BAD);
    }

    static void pricedByTheLatestNightNotTheLatestTold() {
        TermLodgings x = new TermLodgings();
        x.price(0, 20, 200);
        x.price(0, 10, 100);
        pricesAre("25 told in turn", x, 0, new int[][] {{9, 0}, {10, 100}, {19, 100}, {20, 200}, {59, 200}});
        x.price(0, 19, 190);
        pricesAre("25 one more between", x, 0, new int[][] {{18, 100}, {19, 190}, {20, 200}});
        x.price(0, 21, 210);
        pricesAre("25 one more behind", x, 0, new int[][] {{20, 200}, {21, 210}, {59, 210}});
    }

    static void pricedOfLikeOnesByTheLatestTold() {
        TermLodgings x = new TermLodgings();
        x.price(0, 10, 5);
        x.price(0, 20, 6);
        x.price(0, 10, 7);
        pricesAre("25 like ones", x, 0, new int[][] {{9, 0}, {10, 7}, {19, 7}, {20, 6}});
        x.price(0, 10, 0);
        pricesAre("25 like ones, 0 the latest", x, 0, new int[][] {{9, 0}, {10, 0}, {19, 0}, {20, 6}});
    }

    static void pricedZeroCountsToo() {
        TermLodgings x = new TermLodgings();
        x.price(0, 0, 999);
        x.price(0, 30, 0);
        pricesAre("25 0 counts", x, 0, new int[][] {{29, 999}, {30, 0}, {59, 0}});
    }

    static void pricedOfNightsToCome() {
        TermLodgings x = new TermLodgings();
        x.price(1, 0, 3);
        x.pass(5);
        pricesAre("25 passed and to come", x, 1, new int[][] {{4, 3}, {5, 3}, {59, 3}});
    }

    // ---- 26 had

    static void hadInNoNightYet() {
        TermLodgings x = housed(1);
        Due.due("26 had(0, 0)", x.had(0, 0), BAD);
        Due.due("26 had(0, -1)", x.had(0, -1), BAD);
    }

    static void hadInTheLatestNightAndTheNext() {
        TermLodgings x = housed(1);
        for (int passed = 1; passed <= 60; passed++) {
            x.pass(1);
            Due.due("26 had(0, " + (passed - 1) + ")", x.had(0, passed - 1), 0);
            Due.due("26 had(0, " + passed + ")", x.had(0, passed), BAD);
        }
        Due.due("26 had(0, 0)", x.had(0, 0), 0);
        Due.due("26 had(0, -1)", x.had(0, -1), BAD);
    }

    static void hadByTheFirstAndTheLast() {
        TermLodgings x = housed(16);
        x.pass(60);
        for (int night : new int[] {0, 59}) {
            for (int p = 0; p < 16; p++) {
                Due.due("26 had(" + p + ", " + night + ")", x.had(p, night), p);
            }
            Due.due("26 had(16, " + night + ")", x.had(16, night), BAD);
            Due.due("26 had(-1, " + night + ")", x.had(-1, night), BAD);
        }
    }

    static void hadIsNotWhatOneHasNow() {
        TermLodgings x = Due.town(1, 0, 1);
        x.pass(1);
        x.give(0, 0);
        x.pass(1);
        x.strike(0);
        x.pass(1);
        x.deal();
        x.pass(1);
        int[] due = {NONE, 0, 1, NONE};
        for (int night = 0; night < 4; night++) {
            Due.due("26 had(0, " + night + ")", x.had(0, night), due[night]);
        }
    }

    // ---- 27 bill

    static void billOfNothing() {
        TermLodgings x = housed(1);
        Due.due("27 no NIGHT, no list: bill(0)", x.bill(0), 0);
        x.pass(60);
        Due.due("27 no list: bill(0)", x.bill(0), 0);
        x = Due.town(1);
        x.price(0, 0, 999);
        x.pass(60);
        Due.due("27 no ROOM: bill(0)", x.bill(0), 0);
    }

    static void billOfTheGreatest() {
        TermLodgings x = housed(16);
        x.price(0, 0, 999);
        x.pass(60);
        Due.due("27 bill(0)", x.bill(0), 59940);
        Due.due("27 bill(15)", x.bill(15), 59940);
        Due.due("27 bill(16)", x.bill(16), BAD);
    }

    static void billOfTheFirstAndTheLastNight() {
        TermLodgings x = housed(1);
        x.price(0, 0, 1);
        x.price(0, 1, 0);
        x.price(0, 59, 10);
        x.pass(1);
        Due.due("27 the first NIGHT: bill(0)", x.bill(0), 1);
        x.pass(58);
        Due.due("27 all but the last: bill(0)", x.bill(0), 1);
        x.pass(1);
        Due.due("27 the last NIGHT too: bill(0)", x.bill(0), 11);
    }

    static void billByTheListsAsTheyAreNow() {
        TermLodgings x = housed(1);
        x.pass(60);
        Due.due("27 bill(0)", x.bill(0), 0);
        x.price(0, 30, 2);
        Due.due("27 told behind TERM: bill(0)", x.bill(0), 60);
        x.price(0, 30, 1);
        Due.due("27 told again: bill(0)", x.bill(0), 30);
        x.price(0, 0, 3);
        Due.due("27 told for earlier: bill(0)", x.bill(0), 120);
    }

    static void billByTheHouseOfEachNight() {
        TermLodgings x = Due.town(1, 0, 7);
        x.price(0, 0, 5);
        x.price(7, 0, 100);
        x.give(0, 0);
        x.pass(2);
        x.give(0, 1);
        x.pass(3);
        x.give(0, NONE);
        x.pass(4);
        Due.due("27 bill(0)", x.bill(0), 310);
        x.strike(0);
        x.strike(7);
        Due.due("27 STRUCK since: bill(0)", x.bill(0), 310);
    }

    // ---- 28 matter

    static void matterWithoutATelling() {
        TermLodgings x = new TermLodgings();
        Due.due("28 new: matter()", x.matter(), Integer.MIN_VALUE);
        x = housed(16);
        x.pass(60);
        x.price(0, 0, 1000);
        Due.due("28 only a refused one: matter()", x.matter(), Integer.MIN_VALUE);
    }

    static void matterOfNothing() {
        TermLodgings x = new TermLodgings();
        x.price(0, 0, 999);
        Due.due("28 nobody: matter()", x.matter(), 0);
        x = housed(1);
        x.price(0, 0, 999);
        Due.due("28 no NIGHT: matter()", x.matter(), 0);
    }

    static void matterOfTheGreatest() {
        TermLodgings x = housed(16);
        x.pass(60);
        x.price(0, 0, 999);
        Due.due("28 the least: matter()", x.matter(), -959040);
        x.price(0, 0, 0);
        Due.due("28 the greatest: matter()", x.matter(), 959040);
        x.price(0, 0, 0);
        Due.due("28 the same again: matter()", x.matter(), 0);
    }

    static void matterOfTheLastNight() {
        TermLodgings x = housed(2);
        x.price(0, 59, 4);
        x.pass(59);
        Due.due("28 to come: matter()", x.matter(), 0);
        x.pass(1);
        Due.due("28 passed: matter()", x.matter(), -8);
    }

    static void matterOfTheFirstNight() {
        TermLodgings x = housed(2);
        x.price(0, 1, 50);
        x.price(0, 0, 4);
        x.pass(60);
        Due.due("28 the first NIGHT alone: matter()", x.matter(), -8);
    }

    static void matterOfOneBehindALaterNight() {
        TermLodgings x = housed(1);
        x.pass(60);
        x.price(0, 0, 10);
        x.price(0, 40, 1);
        x.price(0, 30, 4);
        Due.due("28 ten NIGHTS: matter()", x.matter(), 60);
    }

    static void matterOfLikeOnes() {
        TermLodgings x = housed(1);
        x.pass(10);
        x.price(0, 5, 10);
        x.price(0, 5, 7);
        Due.due("28 like ones: matter()", x.matter(), 15);
        x.price(0, 5, 8);
        Due.due("28 a third: matter()", x.matter(), -5);
    }

    static void matterOfTheFortiethAndNoMore() {
        TermLodgings x = housed(1);
        x.pass(1);
        for (int n = 1; n <= 39; n++) {
            x.price(0, 0, 2 * n);
        }
        x.price(0, 0, 100);
        Due.due("28 the 40th: matter()", x.matter(), 78 - 100);
        x.price(0, 0, 500);
        Due.due("28 a 41st is refused: matter()", x.matter(), 78 - 100);
        x.price(0, 60, 500);
        Due.due("28 a BAD one is refused: matter()", x.matter(), 78 - 100);
    }

    static void matterOfTheFortiethFromALaterNight() {
        TermLodgings x = housed(1);
        x.pass(10);
        for (int n = 1; n <= 39; n++) {
            x.price(0, 0, 2 * n);
        }
        x.price(0, 5, 100);
        Due.due("28 the 40th, five NIGHTS: matter()", x.matter(), 5 * (78 - 100));
    }

    static void matterOfTheLatestHouseAlone() {
        TermLodgings x = Due.town(2, 0, 7);
        x.give(0, 0);
        x.give(1, 1);
        x.pass(3);
        x.price(0, 0, 100);
        x.price(7, 0, 9);
        Due.due("28 HOUSE 7: matter()", x.matter(), -27);
        x.price(0, 2, 90);
        Due.due("28 HOUSE 0: matter()", x.matter(), 10);
        x.price(5, 0, 90);
        Due.due("28 a HOUSE without ROOMS: matter()", x.matter(), 0);
    }

    static void matterAsMuchAsNot() {
        TermLodgings x = housed(1);
        x.pass(1);
        x.price(0, 0, 3);
        Due.due("28 three below: matter()", x.matter(), -3);
    }

    static void matterOfThoseAwayAndThoseWhoLeft() {
        TermLodgings x = housed(2);
        x.away(0, true);
        x.pass(2);
        x.give(1, NONE);
        x.pass(3);
        x.price(0, 0, 10);
        Due.due("28 matter()", x.matter(), -70);
    }

    // ---- 29 count

    static void countOfTheGreatest() {
        TermLodgings x = Towns.FULL.made();
        for (int house = 0; house < 7; house++) {
            x.strike(house);
        }
        int[] due = {24, 16, 60, 8, 60, 40, 0};
        for (int what = 0; what < due.length; what++) {
            Due.due("29 count(" + what + ")", x.count(what), due[what]);
        }
        Due.due("29 count(7)", x.count(7), BAD);
        Due.due("29 count(-1)", x.count(-1), BAD);
        Due.due("29 all have a ROOM: count(6)", housed(16).count(6), 16);
    }

    static void countOneOfEach() {
        TermLodgings x = new TermLodgings();
        x.room(0, 0, 0);
        Due.due("29 count(0)", x.count(0), 1);
        x.person(1, NONE);
        Due.due("29 count(1)", x.count(1), 1);
        x.type('y');
        Due.due("29 count(2)", x.count(2), 1);
        x.strike(7);
        Due.due("29 count(3)", x.count(3), 1);
        x.pass(1);
        Due.due("29 count(4)", x.count(4), 1);
        x.price(0, 0, 0);
        Due.due("29 count(5)", x.count(5), 1);
        Due.due("29 count(6)", x.count(6), 0);
        x.give(0, 0);
        Due.due("29 count(6)", x.count(6), 1);
    }

    // ---- 30 digest

    private static BigInteger with(BigInteger h, long number) {
        return h.multiply(BigInteger.valueOf(31)).add(BigInteger.valueOf(number));
    }

    /** The digest as a number that never wraps. */
    private static BigInteger unwrapped(TermLodgings x) {
        BigInteger h = BigInteger.valueOf(17);
        for (int what = 0; what <= 6; what++) {
            h = with(h, x.count(what));
        }
        for (int p = 0; p < x.count(1); p++) {
            for (int what = 1; what <= 5; what++) {
                h = with(h, x.about(p, what));
            }
            h = with(h, x.bill(p));
        }
        for (int i = 0; i < x.count(1); i++) {
            h = with(h, x.turn(i));
        }
        for (int what = 0; what <= 2; what++) {
            h = with(h, x.traded(what));
        }
        return h;
    }

    private static void digestIs(String call, TermLodgings x, boolean wraps) {
        BigInteger due = unwrapped(x);
        Due.due(call + " wraps", due.bitLength() > 63 ? 1 : 0, wraps ? 1 : 0);
        Due.due(call + ": digest()", x.digest(), due.longValue());
        Due.due(call + ": digest() again", x.digest(), due.longValue());
    }

    static void digestOfANewObject() {
        digestIs("30 new", new TermLodgings(), false);
        Due.due("30 new: digest()", new TermLodgings().digest(), 13933680878673617L);
    }

    static void digestWithoutPeople() {
        TermLodgings x = Due.town(0, 0, 1, 2);
        x.price(0, 0, 5);
        x.pass(60);
        digestIs("30 no PEOPLE", x, false);
    }

    static void digestThatWraps() {
        digestIs("30 one person", Due.town(1), true);
        digestIs("30 two with ROOMS", housed(2), true);
        digestIs("30 amid a term", Towns.SOME.made(), true);
    }

    static void digestOfAFullObject() {
        digestIs("30 full", Towns.FULL.made(), true);
    }

    /** Six numbers come behind whether one is AWAY, eight behind how many WISHES: 31 to the power of 6 and of 8. */
    static void digestTakesEachNumber() {
        TermLodgings x = Due.town(1, 0);
        long before = x.digest();
        x.away(0, true);
        Due.due("30 AWAY: digest()", x.digest() - before, 887503681L);
        x.away(0, false);
        x.wish(0, 0);
        Due.due("30 one WISH: digest()", x.digest() - before, 852891037441L);
        x.content(0);
        Due.due("30 as before: digest()", x.digest(), before);
    }

    static void digestLeavesOutTheYear() {
        TermLodgings x = new TermLodgings();
        x.person(1, 3);
        TermLodgings y = new TermLodgings();
        y.person(4, 3);
        Due.due("30 another YEAR: digest()", y.digest(), x.digest());
    }

    static void digestLeavesOutWhatAStatuteSays() {
        TermLodgings x = Due.town(1, 0);
        Due.typeAll(x, "y=1");
        TermLodgings y = Due.town(1, 0);
        Due.typeAll(y, "!!!");
        Due.due("30 as many bytes: digest()", y.digest(), x.digest());
    }

    // ---- an object is used for 512 calls

    static void theLastOfAllCalls() {
        TermLodgings x = Due.town(16);
        for (int call = 16; call < 511; call++) {
            x.draw(call);
        }
        TermLodgings y = Due.town(16);
        y.draw(510);
        Due.due("the 512th call: digest()", x.digest(), y.digest());
    }

    static void theLastOfAllTypings() {
        TermLodgings x = new TermLodgings();
        for (int call = 0; call < 504; call += 63) {
            for (int n = 1; n <= 60; n++) {
                Due.due("type('y')", x.type(n % 2 == 1 ? 'y' : '='), n);
            }
            Due.due("a 61st type('y')", x.type('y'), FULL);
            Due.due("fault()", x.fault(), 2);
            Due.due("repeal()", x.repeal(), 60);
        }
        Due.typeAll(x, "m<20|h");
        Due.due("the 511th call: fault()", x.fault(), 6);
        Due.due("the 512th call: repeal()", x.repeal(), 6);
    }
}
