/**
 * "Nothing is promised beyond the answers and state changes described above": each call that changes something is made
 * amid a term and on a full object, and the answers that are others then are those that its promise tells.
 */
public final class OnlyWhatIsToldTest {
    private static final int NONE = TermLodgings.NONE;

    public static void main(String[] args) throws IllegalAccessException {
        Due.runAll(OnlyWhatIsToldTest.class);
    }

    // ---- rooms, people

    static void roomChangesOnlyItself() {
        Changed.just("2 room(6, 2, 3)", Towns.SOME, x -> x.room(6, 2, 3), 8,
            "digest()", "count(0)", "of(8, *)", "may(*, 8)");
    }

    static void personChangesOnlyOneselfAndTheLastTurn() {
        Changed.just("3 person(3, 3)", Towns.SOME, x -> x.person(3, 3), 6,
            "digest()", "count(1)", "turn(6)", "bill(6)", "about(6, *)", "had(6, *)", "may(6, *)");
    }

    static void wishChangesOnlyTheOwnWishes() {
        Changed.just("4 wish(2, 5)", Towns.SOME, x -> x.wish(2, 5), 2, "digest()", "about(2, 2)", "about(2, 11)");
        Changed.just("4 wish(4, 7)", Towns.SOME, x -> x.wish(4, 7), 1, "digest()", "about(4, 2)", "about(4, 10)");
    }

    static void contentChangesOnlyTheOwnWishes() {
        Changed.just("5 content(5)", Towns.SOME, x -> x.content(5), 4,
            "digest()", "about(5, 2)", "about(5, 10)", "about(5, 11)", "about(5, 12)", "about(5, 13)");
        Changed.just("5 content(4)", Towns.SOME, x -> x.content(4), 0);
    }

    static void giveChangesOnlyWhoHasTheTwoRooms() {
        Changed.just("8 give(5, 5)", Towns.SOME, x -> x.give(5, 5), 4,
            "digest()", "wrong()", "about(5, 3)", "of(4, 3)", "of(5, 3)");
        Changed.just("8 give(4, 5)", Towns.SOME, x -> x.give(4, 5), NONE,
            "digest()", "count(6)", "about(4, 3)", "of(5, 3)");
        Changed.just("8 give(3, NONE)", Towns.SOME, x -> x.give(3, NONE), 2,
            "digest()", "count(6)", "about(3, 3)", "of(2, 3)");
        Changed.just("8 give(4, NONE)", Towns.SOME, x -> x.give(4, NONE), NONE);
        Changed.just("8 the own one: give(3, 2)", Towns.SOME, x -> x.give(3, 2), 2);
    }

    // ---- the statute

    static void typeChangesOnlyTheStatute() {
        Changed.just("9 type('&')", Towns.SOME, x -> x.type('&'), 12,
            "digest()", "count(2)", "fault()", "wrong()", "may(*, *)");
        Changed.just("9 type('7')", Towns.SOME, x -> x.type('7'), 12,
            "digest()", "count(2)", "wrong()", "may(1, 0)", "may(1, 1)", "may(0, 0)", "may(0, 1)", "may(4, 0)",
            "may(4, 1)", "may(5, 0)", "may(5, 1)", "may(0, 7)", "may(1, 7)", "may(4, 7)", "may(5, 7)");
    }

    static void repealChangesOnlyTheStatute() {
        Changed.just("10 repeal()", Towns.SOME, x -> x.repeal(), 11, "digest()", "count(2)", "wrong()", "may(*, *)");
        Changed.just("10 repeal()", Towns.FULL, x -> x.repeal(), 60, "digest()", "count(2)", "wrong()", "may(*, *)");
        Changed.just("10 repeal()", Towns.NEW, x -> x.repeal(), 0);
    }

    // ---- ballots

    static void drawChangesOnlyTurns() {
        Changed.just("14 draw(2)", Towns.SOME, x -> x.draw(2), Due.town(6).draw(2), "digest()", "turn(*)");
        Changed.just("14 draw(2)", Towns.FULL, x -> x.draw(2), Due.town(16).draw(2), "digest()", "turn(*)");
        Changed.just("14 the same again: draw(-5)", Towns.FULL, x -> x.draw(-5), 8);
    }

    static void changeChangesOnlyTwoTurns() {
        Changed.just("15 change(0, 5)", Towns.SOME, x -> x.change(0, 5), 1, "digest()", "turn(0)", "turn(5)");
        Changed.just("15 change(15, 7)", Towns.FULL, x -> x.change(15, 7), 1, "digest()", "turn(15)", "turn(7)");
        Changed.just("15 change(3, 3)", Towns.FULL, x -> x.change(3, 3), 1);
    }

    static void dealChangesOnlyWhoHasWhat() {
        Changed.just("17 deal()", Towns.SOME, x -> x.deal(), 5,
            "digest()", "wrong()", "about(1, 3)", "about(2, 3)", "about(5, 3)",
            "of(0, 3)", "of(1, 3)", "of(4, 3)", "of(5, 3)");
        Changed.just("17 deal()", Towns.NEW, x -> x.deal(), 0);
    }

    static void tradeChangesOnlyWhoHasWhatAndWhatIsTraded() {
        Changed.just("18 trade()", Towns.SOME, x -> x.trade(), 2,
            "digest()", "traded(2)", "about(1, 3)", "about(2, 3)", "of(0, 3)", "of(1, 3)");
        Changed.just("18 trade()", Towns.FULL, x -> x.trade(), 0, "digest()", "traded(0)", "traded(1)", "traded(2)");
    }

    /** 1 and 2 lose ROOMS 1 and 0; nothing but ROOM 5 is left for 1. */
    static void strikeMovesOnlyThoseWithin() {
        Changed.just("20 strike(0)", Towns.SOME, x -> x.strike(0), 0,
            "digest()", "count(3)", "about(1, 3)", "about(2, 3)",
            "of(0, 3)", "of(1, 3)", "of(5, 3)", "of(7, 3)", "may(*, 0)", "may(*, 1)");
    }

    /** 0, 1 and 8 lose ROOMS 0, 8 and 16: of those that nobody has 2, 3 and 4 are the least that they MAY have. */
    static void strikeMovesOnlyThoseWithinAFullTown() {
        Changed.just("20 strike(0)", Towns.FULL, x -> x.strike(0), 0,
            "digest()", "count(3)", "about(0, 3)", "about(1, 3)", "about(8, 3)",
            "of(0, 3)", "of(8, 3)", "of(16, 3)", "of(2, 3)", "of(3, 3)", "of(4, 3)",
            "may(*, 0)", "may(*, 8)", "may(*, 16)");
    }

    /** 0 and 5 lose ROOMS 3 and 4, both could get no other one than ROOM 5; 5 was wrong(). */
    static void strikeLeavesOneWithout() {
        Changed.just("20 strike(2)", Towns.SOME, x -> x.strike(2), 1,
            "digest()", "wrong()", "count(3)", "count(6)", "about(0, 3)", "about(5, 3)",
            "of(3, 3)", "of(4, 3)", "of(5, 3)", "may(*, 3)", "may(*, 4)");
    }

    static void licenseChangesOnlyWhereOneMayLive() {
        Changed.just("21 license(5)", Towns.SOME, x -> x.license(5), 1,
            "digest()", "count(3)", "may(2, 6)", "may(3, 6)");
        Changed.just("21 license(7)", Towns.FULL, x -> x.license(7), 1,
            "digest()", "count(3)", "may(*, 7)", "may(*, 15)", "may(*, 23)");
    }

    // ---- nights

    static void awayChangesOnlyWhetherOneIsAway() {
        Changed.just("22 away(0, true)", Towns.SOME, x -> x.away(0, true), 1, "digest()", "about(0, 4)");
        Changed.just("22 away(2, false)", Towns.SOME, x -> x.away(2, false), 1, "digest()", "about(2, 4)");
        Changed.just("22 as it is: away(2, true)", Towns.SOME, x -> x.away(2, true), 1);
        Changed.just("22 away(15, false)", Towns.FULL, x -> x.away(15, false), 1, "digest()", "about(15, 4)");
    }

    /** 2 is AWAY, 4 has no ROOM; HOUSE 2, where 0 and 5 are, has no PRICE. */
    static void passChangesOnlyNightsAndBills() {
        Changed.just("23 pass(2)", Towns.SOME, x -> x.pass(2), 9,
            "digest()", "count(4)", "about(0, 5)", "about(1, 5)", "about(3, 5)", "about(5, 5)",
            "bill(1)", "bill(2)", "bill(3)", "matter()",
            "had(0, 7)", "had(1, 7)", "had(2, 7)", "had(3, 7)", "had(4, 7)", "had(5, 7)", "had(*, 8)");
    }

    static void priceChangesOnlyTheListOfOneHouse() {
        Changed.just("24 price(2, 58, 4)", Towns.SOME, x -> x.price(2, 58, 4), 4,
            "digest()", "count(5)", "matter()", "priced(2, 58)", "priced(2, 59)");
        Changed.just("24 price(2, 5, 4)", Towns.SOME, x -> x.price(2, 5, 4), 4,
            "digest()", "count(5)", "matter()", "priced(2, *)", "bill(0)", "bill(5)");
    }

    /** From NIGHT 3 on another telling counts. */
    static void priceChangesOnlyTheNightsForWhichItCounts() {
        Changed.just("24 price(0, 1, 11)", Towns.SOME, x -> x.price(0, 1, 11), 4,
            "digest()", "count(5)", "matter()", "priced(0, 1)", "priced(0, 2)", "bill(1)", "bill(2)");
    }
}
