/** Promises 1 to 8: the new object, ROOMS, PEOPLE, WISHES, who has what. */
public final class RoomsAndPeopleTest {
    private static final int NONE = TermLodgings.NONE, BAD = TermLodgings.BAD;
    private static final int NOT = TermLodgings.NOT, FULL = TermLodgings.FULL;

    public static void main(String[] args) {
        newObject();
        room();
        person();
        wish();
        content();
        about();
        of();
        give();
        Due.finish();
    }

    private static void newObject() {
        TermLodgings x = new TermLodgings();
        for (int what = 0; what <= 6; what++) {
            Due.due("1 new: count(" + what + ")", x.count(what), 0);
        }
        Due.due("1 new: fault()", x.fault(), NONE);
        Due.due("1 new: wrong()", x.wrong(), 0);
        Due.due("1 new: repeal()", x.repeal(), 0);
        Due.due("1 new: draw(1)", x.draw(1), NONE);
        Due.due("1 new: deal()", x.deal(), 0);
        Due.due("1 new: priced(0, 0)", x.priced(0, 0), 0);
        Due.due("1 new: matter()", x.matter(), Integer.MIN_VALUE);
        Due.due("1 new: about(0, 0)", x.about(0, 0), BAD);
        Due.due("1 new: of(0, 0)", x.of(0, 0), BAD);
        for (int house = 0; house < 8; house++) {
            Due.due("1 new: license(" + house + ")", x.license(house), NOT);
        }
    }

    private static void room() {
        TermLodgings x = new TermLodgings();
        Due.due("2 room(-1, 0, 0)", x.room(-1, 0, 0), BAD);
        Due.due("2 room(8, 0, 0)", x.room(8, 0, 0), BAD);
        Due.due("2 room(0, -1, 0)", x.room(0, -1, 0), BAD);
        Due.due("2 room(0, 21, 0)", x.room(0, 21, 0), BAD);
        Due.due("2 room(0, 0, -1)", x.room(0, 0, -1), BAD);
        Due.due("2 room(0, 0, 4)", x.room(0, 0, 4), BAD);
        Due.due("2 refused rooms: count(0)", x.count(0), 0);
        Due.due("2 room(0, 0, 0)", x.room(0, 0, 0), 0);
        Due.due("2 room(7, 20, 3)", x.room(7, 20, 3), 1);
        for (int n = 2; n < 24; n++) {
            Due.due("2 room(1, 1, 1)", x.room(1, 1, 1), n);
        }
        Due.due("2 a 25th room", x.room(1, 1, 1), FULL);
        Due.due("2 a 25th room that is BAD", x.room(8, 1, 1), BAD);
        Due.due("2 full rooms: count(0)", x.count(0), 24);
    }

    private static void person() {
        TermLodgings x = new TermLodgings();
        Due.due("3 person(0, 0)", x.person(0, 0), BAD);
        Due.due("3 person(5, 0)", x.person(5, 0), BAD);
        Due.due("3 person(1, -2)", x.person(1, -2), BAD);
        Due.due("3 person(1, 8)", x.person(1, 8), BAD);
        Due.due("3 refused people: count(1)", x.count(1), 0);
        Due.due("3 person(1, 0)", x.person(1, 0), 0);
        Due.due("3 person(4, 7)", x.person(4, 7), 1);
        Due.due("3 person(2, NONE)", x.person(2, NONE), 2);
        Due.due("3 new one: about(1, 2)", x.about(1, 2), 0);
        Due.due("3 new one: about(1, 3)", x.about(1, 3), NONE);
        Due.due("3 new one: about(1, 4)", x.about(1, 4), 0);
        Due.due("3 new one: about(1, 5)", x.about(1, 5), 0);
        for (int n = 3; n < 16; n++) {
            Due.due("3 person(1, NONE)", x.person(1, NONE), n);
        }
        Due.due("3 a 17th person", x.person(1, NONE), FULL);
        Due.due("3 a 17th person that is BAD", x.person(0, NONE), BAD);
        Due.due("3 full people: count(1)", x.count(1), 16);
    }

    private static void wish() {
        TermLodgings x = Due.town(2, 0, 0, 0, 0, 0, 0, 0, 0, 0);
        Due.due("4 wish(-1, 0)", x.wish(-1, 0), BAD);
        Due.due("4 wish(2, 0)", x.wish(2, 0), BAD);
        Due.due("4 wish(0, -1)", x.wish(0, -1), BAD);
        Due.due("4 wish(0, 9)", x.wish(0, 9), BAD);
        for (int n = 0; n < 8; n++) {
            Due.due("4 wish(0, " + (8 - n) + ")", x.wish(0, 8 - n), n + 1);
            Due.due("4 the same wish again", x.wish(0, 8 - n), BAD);
        }
        Due.due("4 a ninth wish", x.wish(0, 0), FULL);
        Due.due("4 a ninth wish that is there", x.wish(0, 8), BAD);
        for (int k = 0; k < 8; k++) {
            Due.due("4 about(0, " + (10 + k) + ")", x.about(0, 10 + k), 8 - k);
        }
        Due.due("4 another's wish", x.wish(1, 8), 1);
    }

    private static void content() {
        TermLodgings x = Due.town(2, 0, 0, 0);
        Due.wishes(x, 0, 2, 1);
        Due.wishes(x, 1, 0);
        Due.due("5 content(-1)", x.content(-1), BAD);
        Due.due("5 content(2)", x.content(2), BAD);
        Due.due("5 content(0)", x.content(0), 2);
        Due.due("5 content(0) again", x.content(0), 0);
        Due.due("5 content: about(0, 2)", x.about(0, 2), 0);
        Due.due("5 content: about(0, 10)", x.about(0, 10), BAD);
        Due.due("5 content: about(1, 2)", x.about(1, 2), 1);
        Due.due("5 content: the wish anew", x.wish(0, 1), 1);
        Due.due("5 content: about(0, 10)", x.about(0, 10), 1);
    }

    private static void about() {
        TermLodgings x = Due.town(0, 3, 3, 3);
        x.person(1, NONE);
        x.person(4, 6);
        x.give(1, 2);
        x.pass(3);
        x.away(1, true);
        x.pass(2);
        Due.wishes(x, 1, 1, 0);
        int[] due = {4, 6, 2, 2, 1, 3};
        for (int what = 0; what < due.length; what++) {
            Due.due("6 about(1, " + what + ")", x.about(1, what), due[what]);
        }
        Due.due("6 about(1, 10)", x.about(1, 10), 1);
        Due.due("6 about(1, 11)", x.about(1, 11), 0);
        for (int what : new int[] {-1, 6, 9, 12, 17, 18, Integer.MIN_VALUE, Integer.MAX_VALUE}) {
            Due.due("6 about(1, " + what + ")", x.about(1, what), BAD);
        }
        Due.due("6 about(0, 1)", x.about(0, 1), NONE);
        Due.due("6 about(0, 3)", x.about(0, 3), NONE);
        Due.due("6 about(-1, 0)", x.about(-1, 0), BAD);
        Due.due("6 about(2, 0)", x.about(2, 0), BAD);
    }

    private static void of() {
        TermLodgings x = new TermLodgings();
        x.room(1, 2, 3);
        x.room(7, 20, 0);
        x.person(1, NONE);
        x.give(0, 1);
        int[][] due = {{1, 2, 3, NONE}, {7, 20, 0, 0}};
        for (int room = 0; room < 2; room++) {
            for (int what = 0; what < 4; what++) {
                Due.due("7 of(" + room + ", " + what + ")", x.of(room, what), due[room][what]);
            }
        }
        Due.due("7 of(0, -1)", x.of(0, -1), BAD);
        Due.due("7 of(0, 4)", x.of(0, 4), BAD);
        Due.due("7 of(-1, 0)", x.of(-1, 0), BAD);
        Due.due("7 of(2, 0)", x.of(2, 0), BAD);
    }

    private static void give() {
        TermLodgings x = Due.town(2, 0, 1, 2);
        Due.due("8 give(-1, 0)", x.give(-1, 0), BAD);
        Due.due("8 give(2, 0)", x.give(2, 0), BAD);
        Due.due("8 give(0, -2)", x.give(0, -2), BAD);
        Due.due("8 give(0, 3)", x.give(0, 3), BAD);
        Due.due("8 give(0, NONE)", x.give(0, NONE), NONE);
        Due.due("8 give(0, 0)", x.give(0, 0), NONE);
        Due.due("8 the own one: give(0, 0)", x.give(0, 0), 0);
        Due.due("8 another's: give(1, 0)", x.give(1, 0), NOT);
        Due.due("8 give(0, 1)", x.give(0, 1), 0);
        Due.due("8 given: of(0, 3)", x.of(0, 3), NONE);
        Due.due("8 given: of(1, 3)", x.of(1, 3), 0);
        Due.due("8 left by another: give(1, 0)", x.give(1, 0), NONE);
        Due.enact(x, "h=0");
        Due.due("8 MAY not: give(1, 2)", x.give(1, 2), NOT);
        Due.due("8 MAY not, the own one: give(0, 1)", x.give(0, 1), NOT);
        Due.lodgings("8 refused", x, 1, 0);
        Due.due("8 give(0, NONE)", x.give(0, NONE), 1);
        Due.due("8 gone: of(1, 3)", x.of(1, 3), NONE);
        x.repeal();
        x.strike(2);
        Due.due("8 STRUCK: give(0, 2)", x.give(0, 2), NOT);
    }
}
