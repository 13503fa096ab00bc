/** Of each promise every refusal at its edge: which one it is, in each state, and that it has changed nothing. */
public final class RefusalsTest {
    private static final int NONE = TermLodgings.NONE, NOT = TermLodgings.NOT, FULL = TermLodgings.FULL;
    private static final int LEAST = Integer.MIN_VALUE, GREATEST = Integer.MAX_VALUE;

    public static void main(String[] args) throws IllegalAccessException {
        Due.runAll(RefusalsTest.class);
    }

    /** The states are those which the tests below count on. */
    static void theStatesAreAsMeant() {
        int[] some = {8, 6, 11, 1, 7, 3, 5};
        int[] full = {24, 16, 60, 1, 60, 40, 16};
        for (int what = 0; what <= 6; what++) {
            Due.due("NEW: count(" + what + ")", Towns.NEW.made().count(what), 0);
            Due.due("SOME: count(" + what + ")", Towns.SOME.made().count(what), some[what]);
            Due.due("FULL: count(" + what + ")", Towns.FULL.made().count(what), full[what]);
        }
        for (Towns town : new Towns[] {Towns.SOME, Towns.FULL}) {
            Due.due(town + ": fault()", town.made().fault(), NONE);
            Due.due(town + ": some are wrong()", town.made().wrong() != 0 ? 1 : 0, 1);
            Due.due(town + ": some rings are traded(0)", town.made().traded(0) > 0 ? 1 : 0, 1);
        }
        Due.due("SOME: AWAY is about(2, 4)", Towns.SOME.made().about(2, 4), 1);
        Due.due("SOME: without a ROOM is about(4, 3)", Towns.SOME.made().about(4, 3), NONE);
    }

    static void askingChangesNothing() {
        for (Towns town : Towns.values()) {
            Refused.askingChangesNothing(town);
        }
    }

    // ---- 2 room

    static void roomOfAHouseOutside() {
        Refused.bad("2 room(-1, 0, 0)", x -> x.room(-1, 0, 0));
        Refused.bad("2 room(8, 0, 0)", x -> x.room(8, 0, 0));
        Refused.bad("2 room(least, 0, 0)", x -> x.room(LEAST, 0, 0));
        Refused.bad("2 room(greatest, 0, 0)", x -> x.room(GREATEST, 0, 0));
    }

    static void roomOfMilesOutside() {
        Refused.bad("2 room(7, -1, 3)", x -> x.room(7, -1, 3));
        Refused.bad("2 room(7, 21, 3)", x -> x.room(7, 21, 3));
        Refused.bad("2 room(7, least, 3)", x -> x.room(7, LEAST, 3));
        Refused.bad("2 room(7, greatest, 3)", x -> x.room(7, GREATEST, 3));
    }

    static void roomOfASortOutside() {
        Refused.bad("2 room(0, 20, -1)", x -> x.room(0, 20, -1));
        Refused.bad("2 room(0, 20, 4)", x -> x.room(0, 20, 4));
        Refused.bad("2 room(0, 20, least)", x -> x.room(0, 20, LEAST));
        Refused.bad("2 room(0, 20, greatest)", x -> x.room(0, 20, GREATEST));
    }

    static void roomTooMany() {
        Refused.refused("2 room(0, 0, 0), a 25th", Towns.FULL, x -> x.room(0, 0, 0), FULL);
        Refused.refused("2 room(7, 20, 3), a 25th", Towns.FULL, x -> x.room(7, 20, 3), FULL);
    }

    // ---- 3 person

    static void personOfAYearOutside() {
        Refused.bad("3 person(0, 0)", x -> x.person(0, 0));
        Refused.bad("3 person(5, 0)", x -> x.person(5, 0));
        Refused.bad("3 person(-1, NONE)", x -> x.person(-1, NONE));
        Refused.bad("3 person(least, 0)", x -> x.person(LEAST, 0));
        Refused.bad("3 person(greatest, 0)", x -> x.person(GREATEST, 0));
    }

    static void personOfAGroupOutside() {
        Refused.bad("3 person(1, -2)", x -> x.person(1, -2));
        Refused.bad("3 person(4, 8)", x -> x.person(4, 8));
        Refused.bad("3 person(1, least)", x -> x.person(1, LEAST));
        Refused.bad("3 person(4, greatest)", x -> x.person(4, GREATEST));
    }

    static void personTooMany() {
        Refused.refused("3 person(1, NONE), a 17th", Towns.FULL, x -> x.person(1, NONE), FULL);
        Refused.refused("3 person(4, 7), a 17th", Towns.FULL, x -> x.person(4, 7), FULL);
    }

    // ---- 4 wish

    static void wishOfNobody() {
        Refused.bad("4 wish(-1, 0)", x -> x.wish(-1, 0));
        Refused.bad("4 wish(how many, 0)", x -> x.wish(x.count(1), 0));
        Refused.bad("4 wish(least, 0)", x -> x.wish(LEAST, 0));
        Refused.bad("4 wish(greatest, 0)", x -> x.wish(GREATEST, 0));
    }

    static void wishForNoRoom() {
        Refused.bad("4 wish(0, NONE)", x -> x.wish(0, NONE));
        Refused.bad("4 wish(0, how many)", x -> x.wish(0, x.count(0)));
        Refused.bad("4 wish(0, least)", x -> x.wish(0, LEAST));
        Refused.bad("4 wish(0, greatest)", x -> x.wish(0, GREATEST));
    }

    static void wishThatIsThere() {
        Refused.bad("4 wish(0, the first of 0)", x -> x.wish(0, x.about(0, 10)));
        Refused.bad("4 wish(0, the last of 0)", x -> x.wish(0, x.about(0, 9 + x.about(0, 2))));
    }

    static void wishTooMany() {
        Refused.refused("4 wish(0, 1), a ninth", Towns.FULL, x -> x.wish(0, 1), FULL);
        Refused.refused("4 wish(15, 23), a ninth", Towns.FULL, x -> x.wish(15, 23), FULL);
    }

    // ---- 5 content

    static void contentOfNobody() {
        Refused.bad("5 content(-1)", x -> x.content(-1));
        Refused.bad("5 content(how many)", x -> x.content(x.count(1)));
        Refused.bad("5 content(least)", x -> x.content(LEAST));
        Refused.bad("5 content(greatest)", x -> x.content(GREATEST));
    }

    // ---- 6 about

    static void aboutNobody() {
        for (int what : new int[] {0, 5, 10}) {
            Refused.bad("6 about(-1, " + what + ")", x -> x.about(-1, what));
            Refused.bad("6 about(how many, " + what + ")", x -> x.about(x.count(1), what));
        }
        Refused.bad("6 about(least, 0)", x -> x.about(LEAST, 0));
        Refused.bad("6 about(greatest, 0)", x -> x.about(GREATEST, 0));
    }

    static void aboutAWhatThatIsNotTold() {
        for (int what : new int[] {LEAST, -1, 6, 7, 8, 9, 18, 26, GREATEST}) {
            Refused.bad("6 about(0, " + what + ")", x -> x.about(0, what));
        }
    }

    static void aboutAWishBehindTheLast() {
        Refused.bad("6 about(0, 10 + how many WISHES)", x -> x.about(0, 10 + Math.max(0, x.about(0, 2))));
    }

    // ---- 7 of

    static void ofNoRoom() {
        for (int what : new int[] {0, 3}) {
            Refused.bad("7 of(-1, " + what + ")", x -> x.of(-1, what));
            Refused.bad("7 of(how many, " + what + ")", x -> x.of(x.count(0), what));
        }
        Refused.bad("7 of(least, 0)", x -> x.of(LEAST, 0));
        Refused.bad("7 of(greatest, 0)", x -> x.of(GREATEST, 0));
    }

    static void ofAWhatThatIsNotTold() {
        for (int what : new int[] {LEAST, -1, 4, GREATEST}) {
            Refused.bad("7 of(0, " + what + ")", x -> x.of(0, what));
        }
    }

    // ---- 8 give

    static void giveToNobody() {
        Refused.bad("8 give(-1, 0)", x -> x.give(-1, 0));
        Refused.bad("8 give(-1, NONE)", x -> x.give(-1, NONE));
        Refused.bad("8 give(how many, 0)", x -> x.give(x.count(1), 0));
        Refused.bad("8 give(how many, NONE)", x -> x.give(x.count(1), NONE));
        Refused.bad("8 give(greatest, 0)", x -> x.give(GREATEST, 0));
    }

    static void giveNoRoom() {
        Refused.bad("8 give(0, -2)", x -> x.give(0, -2));
        Refused.bad("8 give(0, how many)", x -> x.give(0, x.count(0)));
        Refused.bad("8 give(0, least)", x -> x.give(0, LEAST));
        Refused.bad("8 give(0, greatest)", x -> x.give(0, GREATEST));
    }

    static void giveNobodyARoomThatAnotherHas() {
        Refused.bad("8 give(how many, the ROOM of 1)", x -> x.give(x.count(1), x.about(1, 3)));
    }

    static void giveWhatAnotherHas() {
        for (Towns town : new Towns[] {Towns.SOME, Towns.FULL}) {
            Refused.refused("8 give(0, the ROOM of 1)", town, x -> x.give(0, x.about(1, 3)), NOT);
            Refused.refused("8 give(the last, the ROOM of 0)", town, x -> x.give(x.count(1) - 1, x.about(0, 3)), NOT);
        }
        Refused.refused("8 give(4, the ROOM of 1), 4 has none", Towns.SOME, x -> x.give(4, x.about(1, 3)), NOT);
    }

    static void giveWhatTheStatuteForbids() {
        Due.due("8 SOME: who has ROOM 7", Towns.SOME.made().of(7, 3), NONE);
        Refused.refused("8 give(0, 7) of h=7 by y>2|m<3|h=0", Towns.SOME, x -> x.give(0, 7), NOT);
        Refused.refused("8 give(4, 7) of h=7 by y>2|m<3|h=0", Towns.SOME, x -> x.give(4, 7), NOT);
    }

    static void giveTheOwnOneThatTheStatuteForbids() {
        Due.due("8 SOME: who is wrong()", Towns.SOME.made().wrong(), 1 << 5);
        Refused.refused("8 give(5, the own ROOM)", Towns.SOME, x -> x.give(5, x.about(5, 3)), NOT);
    }

    static void giveARoomOfAStruckHouse() {
        Refused.refused("8 give(3, 6), HOUSE 5 is STRUCK", Towns.SOME, x -> x.give(3, 6), NOT);
        Refused.refused("8 give(0, 7), HOUSE 7 is STRUCK", Towns.FULL, x -> x.give(0, 7), NOT);
    }

    // ---- 9 type

    static void typeAByteOutside() {
        for (int b : new int[] {LEAST, -1, 0, 31, 127, 256 + 'y', GREATEST}) {
            Refused.bad("9 type(" + b + ")", x -> x.type(b));
        }
    }

    static void typeTooMany() {
        for (int b : new int[] {32, '0', '|', 'y', 126}) {
            Refused.refused("9 type(" + b + "), a 61st", Towns.FULL, x -> x.type(b), FULL);
        }
    }

    // ---- 12 may

    static void mayOfNobodyOrNoRoom() {
        Refused.bad("12 may(-1, 0)", x -> x.may(-1, 0));
        Refused.bad("12 may(how many, 0)", x -> x.may(x.count(1), 0));
        Refused.bad("12 may(0, -1)", x -> x.may(0, -1));
        Refused.bad("12 may(0, how many)", x -> x.may(0, x.count(0)));
        Refused.bad("12 may(least, greatest)", x -> x.may(LEAST, GREATEST));
        Refused.bad("12 may(0, greatest)", x -> x.may(0, GREATEST));
        Refused.bad("12 may(greatest, 0)", x -> x.may(GREATEST, 0));
    }

    // ---- 15 change, 16 turn

    static void changeOfNoTurn() {
        Refused.bad("15 change(-1, 0)", x -> x.change(-1, 0));
        Refused.bad("15 change(0, -1)", x -> x.change(0, -1));
        Refused.bad("15 change(how many, 0)", x -> x.change(x.count(1), 0));
        Refused.bad("15 change(0, how many)", x -> x.change(0, x.count(1)));
        Refused.bad("15 change(how many, how many)", x -> x.change(x.count(1), x.count(1)));
        Refused.bad("15 change(-1, -1)", x -> x.change(-1, -1));
        Refused.bad("15 change(least, 0)", x -> x.change(LEAST, 0));
        Refused.bad("15 change(0, greatest)", x -> x.change(0, GREATEST));
    }

    static void turnOutside() {
        Refused.bad("16 turn(-1)", x -> x.turn(-1));
        Refused.bad("16 turn(how many)", x -> x.turn(x.count(1)));
        Refused.bad("16 turn(least)", x -> x.turn(LEAST));
        Refused.bad("16 turn(greatest)", x -> x.turn(GREATEST));
    }

    // ---- 19 traded

    static void tradedOfAWhatThatIsNotTold() {
        for (int what : new int[] {LEAST, -1, 3, GREATEST}) {
            Refused.bad("19 traded(" + what + ")", x -> x.traded(what));
        }
    }

    // ---- 20 strike, 21 license

    static void strikeNoHouse() {
        for (int house : new int[] {LEAST, -1, 8, 32, GREATEST}) {
            Refused.bad("20 strike(" + house + ")", x -> x.strike(house));
        }
    }

    static void strikeAStruckHouse() {
        Refused.refused("20 strike(5)", Towns.SOME, x -> x.strike(5), NOT);
        Refused.refused("20 strike(7)", Towns.FULL, x -> x.strike(7), NOT);
    }

    static void licenseNoHouse() {
        for (int house : new int[] {LEAST, -1, 8, 32 + 5, GREATEST}) {
            Refused.bad("21 license(" + house + ")", x -> x.license(house));
        }
    }

    static void licenseALicensedHouse() {
        for (int house = 0; house < 8; house++) {
            int asked = house;
            Refused.refused("21 license(" + house + ")", Towns.NEW, x -> x.license(asked), NOT);
        }
        Refused.refused("21 license(4)", Towns.SOME, x -> x.license(4), NOT);
        Refused.refused("21 license(6)", Towns.FULL, x -> x.license(6), NOT);
    }

    // ---- 22 away

    static void awayOfNobody() {
        for (boolean is : new boolean[] {true, false}) {
            Refused.bad("22 away(-1, " + is + ")", x -> x.away(-1, is));
            Refused.bad("22 away(how many, " + is + ")", x -> x.away(x.count(1), is));
            Refused.bad("22 away(least, " + is + ")", x -> x.away(LEAST, is));
            Refused.bad("22 away(greatest, " + is + ")", x -> x.away(GREATEST, is));
        }
    }

    // ---- 23 pass

    static void passANumberOutside() {
        for (int n : new int[] {LEAST, -60, -1, 0, 61, GREATEST}) {
            Refused.bad("23 pass(" + n + ")", x -> x.pass(n));
        }
    }

    static void passMoreThanAreLeft() {
        Refused.refused("23 pass(54), 7 have passed", Towns.SOME, x -> x.pass(54), FULL);
        Refused.refused("23 pass(60), 7 have passed", Towns.SOME, x -> x.pass(60), FULL);
        Refused.refused("23 pass(1), all have passed", Towns.FULL, x -> x.pass(1), FULL);
        Refused.refused("23 pass(60), all have passed", Towns.FULL, x -> x.pass(60), FULL);
    }

    // ---- 24 price

    static void priceOfNoHouse() {
        for (int house : new int[] {LEAST, -1, 8, GREATEST}) {
            Refused.bad("24 price(" + house + ", 0, 1)", x -> x.price(house, 0, 1));
        }
    }

    static void priceFromNoNight() {
        for (int night : new int[] {LEAST, -1, 60, GREATEST}) {
            Refused.bad("24 price(7, " + night + ", 1)", x -> x.price(7, night, 1));
        }
    }

    static void priceOutside() {
        for (int v : new int[] {LEAST, -1, 1000, GREATEST}) {
            Refused.bad("24 price(0, 59, " + v + ")", x -> x.price(0, 59, v));
        }
    }

    static void priceTooMany() {
        Refused.refused("24 price(0, 0, 0), a 41st", Towns.FULL, x -> x.price(0, 0, 0), FULL);
        Refused.refused("24 price(7, 59, 999), a 41st", Towns.FULL, x -> x.price(7, 59, 999), FULL);
        Refused.refused("24 price(1, 0, 999), a 41st", Towns.FULL, x -> x.price(1, 0, 999), FULL);
    }

    // ---- 25 priced, 26 had, 27 bill, 29 count

    static void pricedOfNoHouseOrNight() {
        Refused.bad("25 priced(-1, 0)", x -> x.priced(-1, 0));
        Refused.bad("25 priced(8, 0)", x -> x.priced(8, 0));
        Refused.bad("25 priced(0, -1)", x -> x.priced(0, -1));
        Refused.bad("25 priced(0, 60)", x -> x.priced(0, 60));
        Refused.bad("25 priced(7, 60)", x -> x.priced(7, 60));
        Refused.bad("25 priced(1, -1)", x -> x.priced(1, -1));
        Refused.bad("25 priced(least, 0)", x -> x.priced(LEAST, 0));
        Refused.bad("25 priced(greatest, 0)", x -> x.priced(GREATEST, 0));
        Refused.bad("25 priced(0, least)", x -> x.priced(0, LEAST));
        Refused.bad("25 priced(0, greatest)", x -> x.priced(0, GREATEST));
    }

    static void hadByNobody() {
        Refused.bad("26 had(-1, 0)", x -> x.had(-1, 0));
        Refused.bad("26 had(how many, 0)", x -> x.had(x.count(1), 0));
        Refused.bad("26 had(least, 0)", x -> x.had(LEAST, 0));
        Refused.bad("26 had(greatest, 0)", x -> x.had(GREATEST, 0));
    }

    static void hadInANightThatHasNotPassed() {
        Refused.bad("26 had(0, -1)", x -> x.had(0, -1));
        Refused.bad("26 had(0, how many)", x -> x.had(0, x.count(4)));
        Refused.bad("26 had(0, 60)", x -> x.had(0, 60));
        Refused.bad("26 had(0, least)", x -> x.had(0, LEAST));
        Refused.bad("26 had(0, greatest)", x -> x.had(0, GREATEST));
    }

    static void billOfNobody() {
        Refused.bad("27 bill(-1)", x -> x.bill(-1));
        Refused.bad("27 bill(how many)", x -> x.bill(x.count(1)));
        Refused.bad("27 bill(least)", x -> x.bill(LEAST));
        Refused.bad("27 bill(greatest)", x -> x.bill(GREATEST));
    }

    static void countOfAWhatThatIsNotTold() {
        for (int what : new int[] {LEAST, -1, 7, GREATEST}) {
            Refused.bad("29 count(" + what + ")", x -> x.count(what));
        }
    }

    // ---- 28 matter

    static void matterWithoutATelling() {
        Refused.refused("28 matter()", Towns.NEW, x -> x.matter(), LEAST);
    }
}
