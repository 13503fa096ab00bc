/** Promises 1 to 8 at the edges: the least, the greatest, the empty and the full that are still taken. */
public final class RoomsAndPeopleEdgesTest {
    private static final int NONE = TermLodgings.NONE, BAD = TermLodgings.BAD;
    private static final int NOT = TermLodgings.NOT, FULL = TermLodgings.FULL;

    public static void main(String[] args) throws IllegalAccessException {
        Due.runAll(RoomsAndPeopleEdgesTest.class);
    }

    private static void whole(String call, TermLodgings x, int first, int... told) {
        for (int what = 0; what < told.length; what++) {
            Due.due(call + ": about(" + first + ", " + what + ")", x.about(first, what), told[what]);
        }
    }

    private static void ofIs(String call, TermLodgings x, int room, int... told) {
        for (int what = 0; what < told.length; what++) {
            Due.due(call + ": of(" + room + ", " + what + ")", x.of(room, what), told[what]);
        }
    }

    // ---- 1 a new object

    static void newCountsNothing() {
        TermLodgings x = new TermLodgings();
        for (int what = 0; what <= 6; what++) {
            Due.due("1 count(" + what + ")", x.count(what), 0);
        }
    }

    static void newHasNoLists() {
        TermLodgings x = new TermLodgings();
        for (int house = 0; house < 8; house++) {
            for (int night = 0; night < 60; night++) {
                Due.due("1 priced(" + house + ", " + night + ")", x.priced(house, night), 0);
            }
        }
        Due.due("1 matter()", x.matter(), Integer.MIN_VALUE);
    }

    static void newHousesAreLicensed() {
        TermLodgings x = new TermLodgings();
        for (int house = 0; house < 8; house++) {
            Due.due("1 license(" + house + ")", x.license(house), NOT);
            Due.due("1 strike(" + house + ")", x.strike(house), 0);
        }
    }

    static void newHasNoStatute() {
        TermLodgings x = new TermLodgings();
        Due.due("1 fault()", x.fault(), NONE);
        Due.due("1 repeal()", x.repeal(), 0);
    }

    static void newHasNobodyAndNoRoom() {
        TermLodgings x = new TermLodgings();
        Due.due("1 about(0, 0)", x.about(0, 0), BAD);
        Due.due("1 of(0, 0)", x.of(0, 0), BAD);
        Due.due("1 turn(0)", x.turn(0), BAD);
        Due.due("1 change(0, 0)", x.change(0, 0), BAD);
        Due.due("1 content(0)", x.content(0), BAD);
        Due.due("1 give(0, NONE)", x.give(0, NONE), BAD);
        Due.due("1 may(0, 0)", x.may(0, 0), BAD);
        Due.due("1 away(0, false)", x.away(0, false), BAD);
        Due.due("1 had(0, 0)", x.had(0, 0), BAD);
        Due.due("1 bill(0)", x.bill(0), BAD);
        Due.due("1 wrong()", x.wrong(), 0);
    }

    static void newHasDealtAndTradedNothing() {
        TermLodgings x = new TermLodgings();
        Due.traded("1 new", x, 0, 0, 0);
        Due.due("1 deal()", x.deal(), 0);
        Due.due("1 trade()", x.trade(), 0);
        Due.traded("1 TRADES of nobody", x, 0, 0, 0);
        Due.due("1 draw(0)", x.draw(0), NONE);
    }

    static void newHasAllNightsAhead() {
        Due.due("1 pass(1)", new TermLodgings().pass(1), 1);
        Due.due("1 pass(60)", new TermLodgings().pass(60), 60);
    }

    static void newKnowsNothingOfAnother() {
        TermLodgings full = Towns.FULL.made();
        Due.due("1 beside a full one: digest()", new TermLodgings().digest(), 13933680878673617L);
        TermLodgings x = Due.town(1, 0);
        Due.due("1 beside a full one: about(0, 2)", x.about(0, 2), 0);
        Due.due("1 the full one: count(0)", full.count(0), 24);
    }

    // ---- 2 room

    static void roomOfTheLeast() {
        TermLodgings x = new TermLodgings();
        Due.due("2 room(0, 0, 0)", x.room(0, 0, 0), 0);
        ofIs("2 room(0, 0, 0)", x, 0, 0, 0, 0, NONE);
        Due.due("2 count(0)", x.count(0), 1);
    }

    static void roomOfTheGreatest() {
        TermLodgings x = new TermLodgings();
        Due.due("2 room(7, 20, 3)", x.room(7, 20, 3), 0);
        ofIs("2 room(7, 20, 3)", x, 0, 7, 20, 3, NONE);
    }

    static void roomOfEachHouseAndSort() {
        TermLodgings x = new TermLodgings();
        for (int n = 0; n < 24; n++) {
            Due.due("2 room(" + n % 8 + ", 0, " + n % 4 + ")", x.room(n % 8, 0, n % 4), n);
            ofIs("2 each HOUSE and SORT", x, n, n % 8, 0, n % 4, NONE);
        }
    }

    static void roomOfEachMiles() {
        TermLodgings x = new TermLodgings();
        for (int miles = 0; miles <= 20; miles++) {
            Due.due("2 room(3, " + miles + ", 1)", x.room(3, miles, 1), miles);
            ofIs("2 each MILES", x, miles, 3, miles, 1, NONE);
        }
    }

    static void roomTheLastThatFits() {
        TermLodgings x = Due.town(0, new int[23]);
        Due.due("2 a 24th room(7, 19, 2)", x.room(7, 19, 2), 23);
        Due.due("2 count(0)", x.count(0), 24);
        ofIs("2 a 24th", x, 23, 7, 19, 2, NONE);
        Due.due("2 a 25th room(7, 19, 2)", x.room(7, 19, 2), FULL);
        Due.due("2 count(0)", x.count(0), 24);
        ofIs("2 the first", x, 0, 0, 0, 0, NONE);
    }

    static void roomOfAStruckHouse() {
        TermLodgings x = Due.town(1);
        x.strike(4);
        Due.due("2 of a STRUCK HOUSE: room(4, 0, 0)", x.room(4, 0, 0), 0);
        Due.due("2 of a STRUCK HOUSE: may(0, 0)", x.may(0, 0), 0);
    }

    // ---- 3 person

    static void personOfTheLeast() {
        TermLodgings x = new TermLodgings();
        Due.due("3 person(1, 0)", x.person(1, 0), 0);
        whole("3 person(1, 0)", x, 0, 1, 0, 0, NONE, 0, 0);
        Due.due("3 count(1)", x.count(1), 1);
    }

    static void personOfTheGreatest() {
        TermLodgings x = new TermLodgings();
        Due.due("3 person(4, 7)", x.person(4, 7), 0);
        whole("3 person(4, 7)", x, 0, 4, 7, 0, NONE, 0, 0);
    }

    static void personWithoutAGroup() {
        TermLodgings x = new TermLodgings();
        Due.due("3 person(2, NONE)", x.person(2, NONE), 0);
        whole("3 person(2, NONE)", x, 0, 2, NONE, 0, NONE, 0, 0);
    }

    static void personOfEachYearAndGroup() {
        TermLodgings x = new TermLodgings();
        for (int n = 0; n < 9; n++) {
            Due.due("3 person(" + (1 + n % 4) + ", " + (n - 1) + ")", x.person(1 + n % 4, n - 1), n);
            whole("3 each YEAR and GROUP", x, n, 1 + n % 4, n - 1, 0, NONE, 0, 0);
        }
    }

    static void personTheLastThatFits() {
        TermLodgings x = Due.town(15);
        Due.due("3 a 16th person(3, 6)", x.person(3, 6), 15);
        Due.due("3 count(1)", x.count(1), 16);
        whole("3 a 16th", x, 15, 3, 6, 0, NONE, 0, 0);
        Due.due("3 turn(15)", x.turn(15), 15);
        Due.due("3 a 17th person(3, 6)", x.person(3, 6), FULL);
        Due.due("3 count(1)", x.count(1), 16);
        Due.due("3 turn(16)", x.turn(16), BAD);
    }

    static void personWhoComesAtTheEndOfTerm() {
        TermLodgings x = Due.town(1, 0, 0);
        x.give(0, 0);
        x.away(0, true);
        x.price(0, 0, 9);
        x.pass(60);
        Due.due("3 comes late: person(1, NONE)", x.person(1, NONE), 1);
        whole("3 comes late", x, 1, 1, NONE, 0, NONE, 0, 0);
        Due.due("3 comes late: had(1, 0)", x.had(1, 0), NONE);
        Due.due("3 comes late: had(1, 59)", x.had(1, 59), NONE);
        Due.due("3 comes late: bill(1)", x.bill(1), 0);
        x.give(1, 1);
        Due.due("3 a ROOM behind TERM: bill(1)", x.bill(1), 0);
    }

    // ---- 4 wish

    static void wishTheFirst() {
        TermLodgings x = Due.town(1, 0);
        Due.due("4 wish(0, 0)", x.wish(0, 0), 1);
        Due.due("4 about(0, 2)", x.about(0, 2), 1);
        Due.due("4 about(0, 10)", x.about(0, 10), 0);
        Due.due("4 wish(0, 0) again", x.wish(0, 0), BAD);
        Due.due("4 about(0, 2)", x.about(0, 2), 1);
    }

    static void wishTheLastThatFits() {
        TermLodgings x = Due.town(16, new int[24]);
        for (int k = 0; k < 7; k++) {
            Due.due("4 wish(15, " + (23 - k) + ")", x.wish(15, 23 - k), k + 1);
        }
        Due.due("4 an eighth wish(15, 0)", x.wish(15, 0), 8);
        Due.due("4 about(15, 17)", x.about(15, 17), 0);
        Due.due("4 a ninth wish(15, 1)", x.wish(15, 1), FULL);
        Due.due("4 about(15, 2)", x.about(15, 2), 8);
        Due.due("4 about(15, 18)", x.about(15, 18), BAD);
    }

    static void wishThatIsThereAmongEight() {
        TermLodgings x = Due.town(1, new int[24]);
        Due.wishes(x, 0, 23, 22, 21, 20, 19, 18, 17, 16);
        for (int room = 16; room < 24; room++) {
            Due.due("4 FULL too: wish(0, " + room + ")", x.wish(0, room), BAD);
        }
        Due.due("4 FULL too: wish(0, 24)", x.wish(0, 24), BAD);
        Due.due("4 FULL too: wish(0, -1)", x.wish(0, -1), BAD);
        Due.due("4 FULL alone: wish(0, 15)", x.wish(0, 15), FULL);
    }

    static void wishOfNeighboursIsTheirOwn() {
        TermLodgings x = Due.town(3, new int[24]);
        Due.wishes(x, 1, 0, 1, 2, 3, 4, 5, 6, 7);
        Due.due("4 wish(0, 7)", x.wish(0, 7), 1);
        Due.due("4 wish(2, 0)", x.wish(2, 0), 1);
        Due.due("4 about(1, 10)", x.about(1, 10), 0);
        Due.due("4 about(1, 17)", x.about(1, 17), 7);
        Due.due("4 about(0, 11)", x.about(0, 11), BAD);
    }

    static void wishForARoomThatOneCannotHave() {
        TermLodgings x = Due.town(2, 0, 1);
        x.give(1, 0);
        x.strike(1);
        Due.enact(x, "y=4");
        Due.due("4 another has it: wish(0, 0)", x.wish(0, 0), 1);
        Due.due("4 its HOUSE is STRUCK: wish(0, 1)", x.wish(0, 1), 2);
    }

    static void wishForTheOwnRoom() {
        TermLodgings x = Due.town(1, 0);
        x.give(0, 0);
        Due.due("4 the own one: wish(0, 0)", x.wish(0, 0), 1);
    }

    // ---- 5 content

    static void contentOfNoWishes() {
        TermLodgings x = Due.town(1, 0);
        Due.due("5 content(0)", x.content(0), 0);
        Due.due("5 content(0) again", x.content(0), 0);
    }

    static void contentOfOneWish() {
        TermLodgings x = Due.town(1, 0);
        x.wish(0, 0);
        Due.due("5 content(0)", x.content(0), 1);
        Due.due("5 about(0, 2)", x.about(0, 2), 0);
        Due.due("5 about(0, 10)", x.about(0, 10), BAD);
    }

    static void contentOfAllWishes() {
        TermLodgings x = Due.town(16, new int[24]);
        Due.wishes(x, 14, 1, 2, 3, 4, 5, 6, 7, 8);
        Due.wishes(x, 15, 1, 2, 3, 4, 5, 6, 7, 8);
        Due.due("5 content(15)", x.content(15), 8);
        for (int k = 0; k < 8; k++) {
            Due.due("5 about(15, " + (10 + k) + ")", x.about(15, 10 + k), BAD);
            Due.due("5 about(14, " + (10 + k) + ")", x.about(14, 10 + k), 1 + k);
        }
        for (int k = 0; k < 8; k++) {
            Due.due("5 content, then wish(15, " + (8 - k) + ")", x.wish(15, 8 - k), k + 1);
        }
        Due.due("5 content, then a ninth", x.wish(15, 9), FULL);
    }

    static void contentLeavesTheRoom() {
        TermLodgings x = Due.town(1, 0);
        x.wish(0, 0);
        x.deal();
        x.content(0);
        Due.due("5 about(0, 3)", x.about(0, 3), 0);
    }

    // ---- 6 about

    static void aboutEachWishThatThereIs() {
        TermLodgings x = Due.town(1, new int[24]);
        for (int many = 0; many <= 8; many++) {
            for (int k = 0; k < 8; k++) {
                Due.due("6 of " + many + ": about(0, " + (10 + k) + ")", x.about(0, 10 + k), k < many ? 23 - k : BAD);
            }
            Due.due("6 of " + many + ": about(0, 18)", x.about(0, 18), BAD);
            Due.due("6 of " + many + ": about(0, 9)", x.about(0, 9), BAD);
            x.wish(0, 23 - many);
        }
    }

    static void aboutTheLeast() {
        whole("6 the least", Due.town(1), 0, 1, NONE, 0, NONE, 0, 0);
    }

    static void aboutTheGreatest() {
        TermLodgings x = Due.town(15, new int[24]);
        x.person(4, 7);
        Due.wishes(x, 15, 0, 1, 2, 3, 4, 5, 6, 7);
        x.give(15, 23);
        x.pass(60);
        x.away(15, true);
        whole("6 the greatest", x, 15, 4, 7, 8, 23, 1, 60);
        Due.due("6 about(16, 0)", x.about(16, 0), BAD);
    }

    static void aboutWithAWhatThatIsNotTold() {
        TermLodgings x = Due.town(1, new int[24]);
        Due.wishes(x, 0, 0, 1, 2, 3, 4, 5, 6, 7);
        for (int what = -20; what <= 40; what++) {
            if (what < 0 || what > 17 || (what > 5 && what < 10)) {
                Due.due("6 about(0, " + what + ")", x.about(0, what), BAD);
            }
        }
    }

    // ---- 7 of

    static void ofTheLastRoom() {
        TermLodgings x = Due.town(16, new int[23]);
        x.room(7, 20, 3);
        x.give(15, 23);
        ofIs("7 the last", x, 23, 7, 20, 3, 15);
        Due.due("7 of(24, 0)", x.of(24, 0), BAD);
        Due.due("7 of(24, 3)", x.of(24, 3), BAD);
    }

    static void ofTheFirstRoom() {
        TermLodgings x = Due.town(1, 0);
        x.give(0, 0);
        ofIs("7 the first", x, 0, 0, 0, 0, 0);
    }

    static void ofWithAWhatThatIsNotTold() {
        TermLodgings x = Due.town(1, 5);
        for (int what = -5; what <= 20; what++) {
            if (what < 0 || what > 3) {
                Due.due("7 of(0, " + what + ")", x.of(0, what), BAD);
            }
        }
    }

    // ---- 8 give

    static void giveNoneToOneWithoutARoom() {
        TermLodgings x = Due.town(1);
        Due.due("8 give(0, NONE)", x.give(0, NONE), NONE);
        Due.due("8 about(0, 3)", x.about(0, 3), NONE);
    }

    static void giveNoneToOneWithTheFirstRoom() {
        TermLodgings x = Due.town(1, 0);
        x.give(0, 0);
        Due.due("8 give(0, NONE)", x.give(0, NONE), 0);
        Due.due("8 about(0, 3)", x.about(0, 3), NONE);
        Due.due("8 of(0, 3)", x.of(0, 3), NONE);
        Due.due("8 count(6)", x.count(6), 0);
    }

    static void giveTheLastRoomToTheLast() {
        TermLodgings x = Due.town(16, new int[24]);
        Due.due("8 give(15, 23)", x.give(15, 23), NONE);
        Due.due("8 give(15, 0)", x.give(15, 0), 23);
        Due.due("8 give(15, 23)", x.give(15, 23), 0);
        Due.due("8 of(23, 3)", x.of(23, 3), 15);
        Due.due("8 of(0, 3)", x.of(0, 3), NONE);
        Due.due("8 give(15, 24)", x.give(15, 24), BAD);
        Due.due("8 give(16, 22)", x.give(16, 22), BAD);
    }

    static void giveTheOwnRoom() {
        TermLodgings x = Due.town(1, 0);
        x.give(0, 0);
        Due.due("8 the own one: give(0, 0)", x.give(0, 0), 0);
        Due.due("8 about(0, 3)", x.about(0, 3), 0);
        Due.due("8 of(0, 3)", x.of(0, 3), 0);
        Due.due("8 count(6)", x.count(6), 1);
    }

    static void giveAnothersRoom() {
        TermLodgings x = Due.town(3, 0, 0);
        x.give(0, 0);
        x.give(1, 1);
        Due.due("8 0 has it: give(1, 0)", x.give(1, 0), NOT);
        Due.due("8 1 has it: give(0, 1)", x.give(0, 1), NOT);
        Due.due("8 0 has it: give(2, 0)", x.give(2, 0), NOT);
        Due.lodgings("8 refused", x, 0, 1, NONE);
        x.give(0, NONE);
        Due.due("8 nobody has it: give(1, 0)", x.give(1, 0), 1);
    }

    static void giveByTheStatute() {
        TermLodgings x = Due.town(1, 0, 1);
        Due.enact(x, "h=1");
        Due.due("8 MAY not: give(0, 0)", x.give(0, 0), NOT);
        Due.due("8 MAY: give(0, 1)", x.give(0, 1), NONE);
        Due.due("8 MAY not, has one: give(0, 0)", x.give(0, 0), NOT);
        Due.lodgings("8 MAY not, has one", x, 1);
        x.type('&');
        Due.due("8 a FAULT: give(0, 0)", x.give(0, 0), 1);
    }

    static void giveNoneWhereNothingIsAllowed() {
        TermLodgings x = Due.town(1, 0);
        x.give(0, 0);
        Due.enact(x, "y=9");
        Due.due("8 wrong()", x.wrong(), 1);
        Due.due("8 the own one: give(0, 0)", x.give(0, 0), NOT);
        Due.due("8 give(0, NONE)", x.give(0, NONE), 0);
    }

    static void giveIsBadBeforeItIsNot() {
        TermLodgings x = Due.town(1, 0);
        x.give(0, 0);
        Due.enact(x, "y=9");
        Due.due("8 no such person: give(1, 0)", x.give(1, 0), BAD);
        Due.due("8 no such room: give(0, 1)", x.give(0, 1), BAD);
        Due.due("8 no such room: give(0, -2)", x.give(0, -2), BAD);
        Due.due("8 no such person, NONE: give(-1, NONE)", x.give(-1, NONE), BAD);
    }

    static void giveAStruckRoomAndALicensedOne() {
        TermLodgings x = Due.town(1, 7);
        x.strike(7);
        Due.due("8 STRUCK: give(0, 0)", x.give(0, 0), NOT);
        Due.enact(x, "y=1!");
        Due.due("8 STRUCK, a FAULT: give(0, 0)", x.give(0, 0), NOT);
        x.license(7);
        Due.due("8 LICENSED again: give(0, 0)", x.give(0, 0), NONE);
    }
}
