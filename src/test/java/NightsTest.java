/** Promises 22 to 30: NIGHTS, PRICES, BILLS, counts and the digest. */
public final class NightsTest {
    private static final int NONE = TermLodgings.NONE, BAD = TermLodgings.BAD, FULL = TermLodgings.FULL;

    public static void main(String[] args) {
        away();
        pass();
        price();
        priced();
        had();
        bill();
        billAtTheLimits();
        matter();
        count();
        digest();
        Due.finish();
    }

    private static void away() {
        TermLodgings x = Due.town(2, 0, 0);
        x.give(0, 0);
        x.give(1, 1);
        Due.due("22 away(-1, true)", x.away(-1, true), BAD);
        Due.due("22 away(2, true)", x.away(2, true), BAD);
        Due.due("22 away(1, true)", x.away(1, true), 1);
        Due.due("22 away(1, true) again", x.away(1, true), 1);
        Due.due("22 about(0, 4)", x.about(0, 4), 0);
        Due.due("22 about(1, 4)", x.about(1, 4), 1);
        x.pass(2);
        Due.due("22 away(1, false)", x.away(1, false), 1);
        Due.due("22 about(1, 4)", x.about(1, 4), 0);
        x.pass(3);
        Due.due("22 about(0, 5)", x.about(0, 5), 5);
        Due.due("22 about(1, 5)", x.about(1, 5), 3);
        Due.due("22 AWAY, had all the same: had(1, 0)", x.had(1, 0), 1);
    }

    private static void pass() {
        TermLodgings x = Due.town(2, 0);
        x.give(0, 0);
        Due.due("23 pass(0)", x.pass(0), BAD);
        Due.due("23 pass(-1)", x.pass(-1), BAD);
        Due.due("23 pass(61)", x.pass(61), BAD);
        Due.due("23 pass(1)", x.pass(1), 1);
        Due.due("23 pass(60)", x.pass(60), FULL);
        Due.due("23 refused: count(4)", x.count(4), 1);
        Due.due("23 refused: about(0, 5)", x.about(0, 5), 1);
        Due.due("23 pass(59)", x.pass(59), 60);
        Due.due("23 about(0, 5)", x.about(0, 5), 60);
        Due.due("23 without a room: about(1, 5)", x.about(1, 5), 0);
        Due.due("23 pass(1)", x.pass(1), FULL);
        Due.due("23 pass(61)", x.pass(61), BAD);
        Due.due("23 all at once: pass(60)", new TermLodgings().pass(60), 60);
    }

    private static void price() {
        TermLodgings x = new TermLodgings();
        Due.due("24 price(-1, 0, 0)", x.price(-1, 0, 0), BAD);
        Due.due("24 price(8, 0, 0)", x.price(8, 0, 0), BAD);
        Due.due("24 price(0, -1, 0)", x.price(0, -1, 0), BAD);
        Due.due("24 price(0, 60, 0)", x.price(0, 60, 0), BAD);
        Due.due("24 price(0, 0, -1)", x.price(0, 0, -1), BAD);
        Due.due("24 price(0, 0, 1000)", x.price(0, 0, 1000), BAD);
        Due.due("24 refused: count(5)", x.count(5), 0);
        Due.due("24 price(0, 0, 0)", x.price(0, 0, 0), 1);
        Due.due("24 price(7, 59, 999)", x.price(7, 59, 999), 2);
        for (int n = 3; n <= 40; n++) {
            Due.due("24 price(" + n % 8 + ", 5, 1)", x.price(n % 8, 5, 1), n);
        }
        Due.due("24 a 41st telling", x.price(0, 0, 5), FULL);
        Due.due("24 a 41st telling that is BAD", x.price(0, 0, 1000), BAD);
        Due.due("24 refused: priced(0, 0)", x.priced(0, 0), 0);
        Due.due("24 full: count(5)", x.count(5), 40);
    }

    private static void priced() {
        TermLodgings x = new TermLodgings();
        Due.due("25 priced(-1, 0)", x.priced(-1, 0), BAD);
        Due.due("25 priced(8, 0)", x.priced(8, 0), BAD);
        Due.due("25 priced(0, -1)", x.priced(0, -1), BAD);
        Due.due("25 priced(0, 60)", x.priced(0, 60), BAD);
        x.price(1, 10, 100);
        x.price(1, 30, 300);
        x.price(1, 20, 200);
        x.price(2, 0, 7);
        x.price(7, 59, 999);
        pricesAre(x, new int[][] {{9, 0}, {10, 100}, {19, 100}, {20, 200}, {29, 200}, {30, 300}, {59, 300}});
        x.price(1, 20, 250);
        x.price(1, 10, 150);
        x.price(1, 0, 50);
        pricesAre(x, new int[][] {{0, 50}, {9, 50}, {10, 150}, {20, 250}, {29, 250}, {30, 300}});
        x.price(1, 30, 0);
        pricesAre(x, new int[][] {{29, 250}, {30, 0}, {59, 0}});
        Due.due("25 another house: priced(2, 59)", x.priced(2, 59), 7);
        Due.due("25 without: priced(0, 59)", x.priced(0, 59), 0);
        Due.due("25 the last night: priced(7, 59)", x.priced(7, 59), 999);
        Due.due("25 before the last night: priced(7, 58)", x.priced(7, 58), 0);
    }

    private static void pricesAre(TermLodgings x, int[][] due) {
        for (int[] row : due) {
            Due.due("25 priced(1, " + row[0] + ")", x.priced(1, row[0]), row[1]);
        }
    }

    private static void had() {
        TermLodgings x = Due.town(1, 0, 0);
        Due.due("26 no night passed: had(0, 0)", x.had(0, 0), BAD);
        x.pass(1);
        x.give(0, 1);
        x.pass(2);
        x.give(0, 0);
        x.person(1, NONE);
        x.give(1, 1);
        x.pass(1);
        int[] due = {NONE, 1, 1, 0};
        for (int night = 0; night < due.length; night++) {
            Due.due("26 had(0, " + night + ")", x.had(0, night), due[night]);
        }
        Due.due("26 before one came: had(1, 2)", x.had(1, 2), NONE);
        Due.due("26 had(1, 3)", x.had(1, 3), 1);
        Due.due("26 had(0, 4)", x.had(0, 4), BAD);
        Due.due("26 had(0, -1)", x.had(0, -1), BAD);
        Due.due("26 had(-1, 0)", x.had(-1, 0), BAD);
        Due.due("26 had(2, 0)", x.had(2, 0), BAD);
        x.pass(56);
        Due.due("26 had(0, 59)", x.had(0, 59), 0);
        Due.due("26 had(0, 60)", x.had(0, 60), BAD);
    }

    private static void bill() {
        TermLodgings x = Due.town(3, 0, 1);
        Due.due("27 bill(-1)", x.bill(-1), BAD);
        Due.due("27 bill(3)", x.bill(3), BAD);
        x.give(0, 0);
        x.give(1, 1);
        x.price(0, 0, 10);
        Due.due("27 no night passed: bill(0)", x.bill(0), 0);
        x.pass(3);
        Due.due("27 bill(0)", x.bill(0), 30);
        Due.due("27 no price: bill(1)", x.bill(1), 0);
        x.away(0, true);
        x.give(1, NONE);
        x.give(0, 1);
        x.pass(2);
        Due.due("27 bill(0)", x.bill(0), 30);
        x.price(1, 1, 100);
        Due.due("27 told later, AWAY too: bill(0)", x.bill(0), 230);
        Due.due("27 told later: bill(1)", x.bill(1), 200);
        Due.due("27 never a room: bill(2)", x.bill(2), 0);
        x.strike(0);
        x.strike(1);
        Due.due("27 struck since: bill(0)", x.bill(0), 230);
    }

    private static void billAtTheLimits() {
        TermLodgings x = Due.town(16, new int[24]);
        for (int p = 0; p < 16; p++) {
            x.give(p, p + 8);
        }
        x.price(0, 0, 999);
        x.pass(60);
        for (int p = 0; p < 16; p++) {
            Due.due("27 the greatest: bill(" + p + ")", x.bill(p), 59940);
        }
        Due.due("28 the greatest: matter()", x.matter(), -959040);
    }

    private static void matter() {
        TermLodgings x = Due.town(3, 0, 0, 1);
        x.give(0, 0);
        x.give(1, 1);
        x.give(2, 2);
        Due.due("28 no telling: matter()", x.matter(), Integer.MIN_VALUE);
        x.price(0, 2, 10);
        Due.due("28 no night: matter()", x.matter(), 0);
        x.pass(5);
        Due.due("28 the first telling: matter()", x.matter(), -60);
        x.price(0, 4, 3);
        Due.due("28 the price fell: matter()", x.matter(), 14);
        x.price(0, 4, 3);
        Due.due("28 the same again: matter()", x.matter(), 0);
        x.price(0, 1, 2);
        Due.due("28 behind a later one: matter()", x.matter(), -2 * 2);
        x.price(1, 4, 3);
        Due.due("28 a difference of NOT: matter()", x.matter(), -3);
        x.give(2, NONE);
        x.pass(1);
        Due.due("28 a night without a room: matter()", x.matter(), -3);
        x.price(7, 0, 500);
        Due.due("28 a house without rooms: matter()", x.matter(), 0);
        x.price(0, 59, 500);
        Due.due("28 a night to come: matter()", x.matter(), 0);
    }

    private static void count() {
        TermLodgings x = Due.town(4, 0, 1, 2);
        x.give(0, 0);
        x.give(3, 1);
        x.strike(5);
        x.strike(6);
        x.strike(7);
        x.pass(9);
        Due.typeAll(x, "y=1?!");
        x.price(0, 0, 1);
        int[] due = {3, 4, 5, 3, 9, 1, 2};
        for (int what = 0; what < due.length; what++) {
            Due.due("29 count(" + what + ")", x.count(what), due[what]);
        }
        Due.due("29 count(-1)", x.count(-1), BAD);
        Due.due("29 count(7)", x.count(7), BAD);
    }

    private static long mix(long h, long... numbers) {
        long mixed = h;
        for (long number : numbers) {
            mixed = mixed * 31 + number;
        }
        return mixed;
    }

    private static void digest() {
        Due.due("30 new: digest()", new TermLodgings().digest(), mix(17, 0, 0, 0, 0, 0, 0, 0, 0, 0, 0));
        TermLodgings x = Due.town(0, 0, 1, 1);
        x.person(4, NONE);
        x.person(2, 6);
        Due.wishes(x, 0, 1, 0);
        Due.wishes(x, 1, 0);
        x.give(0, 0);
        x.give(1, 1);
        x.trade();
        x.price(0, 1, 40);
        x.price(1, 0, 7);
        x.pass(2);
        x.away(1, true);
        x.pass(3);
        x.change(0, 1);
        x.strike(6);
        x.type('q');
        long due = mix(17, 3, 2, 1, 1, 5, 2, 2);
        due = mix(due, NONE, 2, 1, 0, 5, 35);
        due = mix(due, 6, 1, 0, 1, 2, 160);
        due = mix(due, 1, 0);
        due = mix(due, 1, 2, 1);
        Due.due("30 digest()", x.digest(), due);
        Due.due("30 digest() again", x.digest(), due);
    }
}
