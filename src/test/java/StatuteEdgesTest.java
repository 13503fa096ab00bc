/** Promises 9 to 13 at the edges: each byte at each place, numbers at their ends, a text that is empty or full. */
public final class StatuteEdgesTest {
    private static final int NONE = TermLodgings.NONE, BAD = TermLodgings.BAD, FULL = TermLodgings.FULL;
    private static final String FIGURES = "0123456789";

    public static void main(String[] args) throws IllegalAccessException {
        Due.runAll(StatuteEdgesTest.class);
    }

    // ---- 9 type

    static void typeTheLeastByte() {
        Due.due("9 type(32)", new TermLodgings().type(32), 1);
        Due.due("9 type(31)", new TermLodgings().type(31), BAD);
    }

    static void typeTheGreatestByte() {
        Due.due("9 type(126)", new TermLodgings().type(126), 1);
        Due.due("9 type(127)", new TermLodgings().type(127), BAD);
    }

    static void typeEachByte() {
        for (int b = -300; b <= 600; b++) {
            TermLodgings x = new TermLodgings();
            boolean taken = b >= 32 && b <= 126;
            Due.due("9 type(" + b + ")", x.type(b), taken ? 1 : BAD);
            Due.due("9 type(" + b + "): count(2)", x.count(2), taken ? 1 : 0);
        }
    }

    static void typeTheLastThatFits() {
        TermLodgings x = new TermLodgings();
        Due.typeAll(x, "y<5&".repeat(14) + "y<5");
        Due.due("9 a 60th type('1')", x.type('1'), 60);
        Due.due("9 count(2)", x.count(2), 60);
        Due.due("9 a 61st type('2')", x.type('2'), FULL);
        Due.due("9 a 61st type('!')", x.type('!'), FULL);
        Due.due("9 a 61st type(31)", x.type(31), BAD);
        Due.due("9 a 61st type(127)", x.type(127), BAD);
        Due.due("9 count(2)", x.count(2), 60);
        Due.due("9 what did not fit is no FAULT: fault()", x.fault(), NONE);
    }

    static void typeABadByteIsNoFault() {
        TermLodgings x = new TermLodgings();
        Due.typeAll(x, "y=");
        x.type(31);
        x.type(127);
        Due.due("9 refused: fault()", x.fault(), 2);
        x.type('1');
        Due.due("9 goes on: fault()", x.fault(), NONE);
    }

    static void typeAlsoBehindAFault() {
        TermLodgings x = new TermLodgings();
        for (int n = 1; n <= 60; n++) {
            Due.due("9 type('!')", x.type('!'), n);
        }
        Due.due("9 a 61st type('!')", x.type('!'), FULL);
        Due.due("9 fault()", x.fault(), 0);
    }

    // ---- 10 repeal

    static void repealOfNothing() {
        TermLodgings x = new TermLodgings();
        Due.due("10 repeal()", x.repeal(), 0);
        Due.due("10 repeal() again", x.repeal(), 0);
        Due.due("10 count(2)", x.count(2), 0);
    }

    static void repealOfOneByte() {
        TermLodgings x = new TermLodgings();
        x.type('!');
        Due.due("10 repeal()", x.repeal(), 1);
        Due.due("10 fault()", x.fault(), NONE);
    }

    static void repealOfAllBytes() {
        TermLodgings x = new TermLodgings();
        Due.typeAll(x, "y=1|".repeat(15));
        Due.due("10 repeal()", x.repeal(), 60);
        Due.due("10 count(2)", x.count(2), 0);
        Due.due("10 fault()", x.fault(), NONE);
        for (int n = 1; n <= 60; n++) {
            Due.due("10 repealed: type", x.type("y<5|".charAt((n - 1) % 4)), n);
        }
        Due.due("10 repealed: a 61st", x.type('y'), FULL);
        Due.due("10 repealed: fault()", x.fault(), 60);
    }

    static void repealMakesAllAllowed() {
        TermLodgings x = Due.town(1, 0);
        Due.typeAll(x, "y=9");
        Due.due("10 may(0, 0)", x.may(0, 0), 0);
        x.repeal();
        Due.due("10 repealed: may(0, 0)", x.may(0, 0), 1);
    }

    // ---- 11 fault

    /** Behind these bytes those may stand, and no other one. */
    private static void goesOnWith(String text, String may) {
        for (int b = 32; b <= 126; b++) {
            TermLodgings x = new TermLodgings();
            Due.typeAll(x, text);
            boolean whole = x.fault() == NONE && !text.isEmpty();
            x.type(b);
            boolean goesOn = may.indexOf(b) >= 0;
            boolean ends = goesOn && FIGURES.indexOf(b) >= 0;
            int due = !goesOn ? text.length() : ends ? NONE : text.length() + 1;
            Due.due("11 '" + text + (char) b + "': fault()", x.fault(), due);
            Due.due("11 '" + text + "' is whole", whole ? 1 : 0, may.indexOf('&') >= 0 ? 1 : 0);
        }
    }

    static void faultOfTheFirstByte() {
        goesOnWith("", "ymsh");
    }

    static void faultBehindALetter() {
        for (String letter : new String[] {"y", "m", "s", "h"}) {
            goesOnWith(letter, "<=>");
        }
    }

    static void faultBehindASign() {
        for (String begun : new String[] {"y<", "m=", "s>", "h="}) {
            goesOnWith(begun, FIGURES);
        }
    }

    static void faultBehindOneFigure() {
        goesOnWith("y<0", FIGURES + "&|");
        goesOnWith("h>9", FIGURES + "&|");
    }

    static void faultBehindTwoFigures() {
        goesOnWith("m=00", FIGURES + "&|");
        goesOnWith("m=20", FIGURES + "&|");
    }

    static void faultBehindThreeFigures() {
        goesOnWith("m=000", "&|");
        goesOnWith("s<999", "&|");
    }

    static void faultBehindWhatParts() {
        goesOnWith("y=1&", "ymsh");
        goesOnWith("y=1|", "ymsh");
        goesOnWith("y=123&", "ymsh");
        goesOnWith("y=123|", "ymsh");
    }

    static void faultInALaterTest() {
        goesOnWith("y=12|m", "<=>");
        goesOnWith("y=12&m>", FIGURES);
        goesOnWith("y=12|m>1", FIGURES + "&|");
        goesOnWith("y=12|m>1&h=123", "&|");
    }

    private static void faultIs(String text, int due) {
        TermLodgings x = new TermLodgings();
        Due.typeAll(x, text);
        Due.due("11 '" + text + "': count(2)", x.count(2), text.length());
        Due.due("11 '" + text + "': fault()", x.fault(), due);
    }

    static void faultOfAnEmptyText() {
        faultIs("", NONE);
    }

    static void faultAtTheEndWhereMoreMustCome() {
        faultIs("y", 1);
        faultIs("y<", 2);
        faultIs("y<5&", 4);
        faultIs("y<5|", 4);
        faultIs("y<123&m", 7);
        faultIs("y<123&m=", 8);
    }

    static void faultAtTheEndOfAFullText() {
        faultIs("y<5&".repeat(15), 60);
        faultIs("y<5|".repeat(14) + "y<12", NONE);
        faultIs("y<55&" + "y<5|".repeat(13) + "y<5", NONE);
        faultIs("y<55&" + "y<5|".repeat(13) + "y<!", 59);
        faultIs("y<555&" + "y<5|".repeat(13) + "y<", 60);
        faultIs("y<555&" + "y<55|" + "y<5|".repeat(12) + "y", 60);
    }

    static void faultAtTheLastByte() {
        faultIs("y<5&".repeat(14) + "y<5!", 59);
        faultIs("y<5&".repeat(14) + "y<5y", 59);
        faultIs("y<123|".repeat(9) + "y<1234", 59);
    }

    static void faultIsTheFirstOne() {
        faultIs("!y=1", 0);
        faultIs("y=1!&!", 3);
        faultIs("!" + "y=1|".repeat(14) + "y=1", 0);
        faultIs("y=1 |y=1", 3);
        faultIs("y=1234&&", 5);
    }

    static void faultStaysWhateverComes() {
        TermLodgings x = new TermLodgings();
        Due.typeAll(x, "y=1!");
        for (char b : "&y=1|m<2".toCharArray()) {
            x.type(b);
            Due.due("11 behind a FAULT: fault()", x.fault(), 3);
        }
    }

    // ---- 12 may

    private static TermLodgings one(int year, int house, int miles, int sort) {
        TermLodgings x = new TermLodgings();
        x.room(house, miles, sort);
        x.person(year, NONE);
        return x;
    }

    private static void mayIs(TermLodgings x, String text, int due) {
        Due.enact(x, text);
        Due.due("12 by '" + text + "': may(0, 0)", x.may(0, 0), due);
    }

    /** A letter whose number is so: each sign with the number, the one below and the one above. */
    private static void compares(TermLodgings x, char letter, int number) {
        mayIs(x, letter + "=" + number, 1);
        mayIs(x, letter + "<" + number, 0);
        mayIs(x, letter + ">" + number, 0);
        mayIs(x, letter + "=" + (number + 1), 0);
        mayIs(x, letter + "<" + (number + 1), 1);
        mayIs(x, letter + ">" + (number + 1), 0);
        if (number > 0) {
            mayIs(x, letter + "=" + (number - 1), 0);
            mayIs(x, letter + "<" + (number - 1), 0);
            mayIs(x, letter + ">" + (number - 1), 1);
        }
    }

    static void mayByTheLeastNumbers() {
        compares(one(1, 0, 0, 0), 'y', 1);
        compares(one(1, 0, 0, 0), 'h', 0);
        compares(one(1, 0, 0, 0), 'm', 0);
        compares(one(1, 0, 0, 0), 's', 0);
    }

    static void mayByTheGreatestNumbers() {
        compares(one(4, 7, 20, 3), 'y', 4);
        compares(one(4, 7, 20, 3), 'h', 7);
        compares(one(4, 7, 20, 3), 'm', 20);
        compares(one(4, 7, 20, 3), 's', 3);
    }

    static void mayByEachLetterAlone() {
        TermLodgings x = one(2, 3, 5, 1);
        mayIs(x, "y=2", 1);
        mayIs(x, "h=3", 1);
        mayIs(x, "m=5", 1);
        mayIs(x, "s=1", 1);
        mayIs(x, "y=3|y=5|y=1", 0);
        mayIs(x, "h=2|h=5|h=1", 0);
        mayIs(x, "m=2|m=3|m=1", 0);
        mayIs(x, "s=2|s=3|s=5", 0);
    }

    static void mayByNumbersOfOneToThreeFigures() {
        TermLodgings x = one(4, 7, 20, 3);
        mayIs(x, "y=4", 1);
        mayIs(x, "y=04", 1);
        mayIs(x, "y=004", 1);
        mayIs(x, "m=020", 1);
        mayIs(x, "m=200", 0);
        mayIs(x, "m=002", 0);
        mayIs(x, "m>0", 1);
        mayIs(x, "m>000", 1);
        mayIs(x, "m<999", 1);
        mayIs(x, "m<100", 1);
        mayIs(x, "m>999", 0);
        mayIs(x, "y=400", 0);
        mayIs(x, "y=40", 0);
    }

    static void mayByAFaultyNumberAlways() {
        TermLodgings x = one(4, 7, 20, 3);
        mayIs(x, "y=9", 0);
        mayIs(x, "y=0009", 1);
        mayIs(x, "y=9999", 1);
        mayIs(x, "y=", 1);
        mayIs(x, "y", 1);
        mayIs(x, "y=9|", 1);
        mayIs(x, "y=9&", 1);
        mayIs(x, "!", 1);
    }

    static void mayByAnEmptyText() {
        mayIs(one(4, 7, 20, 3), "", 1);
    }

    private static void mayOfYearTwo(String text, int due) {
        mayIs(one(2, 0, 0, 0), text, due);
    }

    static void mayByTheLastOfFifteenTests() {
        mayOfYearTwo("y=1|".repeat(14) + "y=2", 1);
        mayOfYearTwo("y=1|".repeat(14) + "y=3", 0);
        mayOfYearTwo("y=1|".repeat(14) + "y=02", 1);
        mayOfYearTwo("y=2&".repeat(14) + "y=2", 1);
        mayOfYearTwo("y=2&".repeat(14) + "y=3", 0);
    }

    static void mayByTheFirstOrTheLastCaseOfALongText() {
        mayOfYearTwo("y=2&".repeat(13) + "y=2|y=3", 1);
        mayOfYearTwo("y=2&".repeat(13) + "y=3|y=2", 1);
        mayOfYearTwo("y=2&".repeat(13) + "y=3|y=1", 0);
        mayOfYearTwo("y=3|" + "y=2&".repeat(13) + "y=2", 1);
        mayOfYearTwo("y=2|" + "y=3&".repeat(13) + "y=3", 1);
    }

    static void mayOfTheLastOnes() {
        TermLodgings x = Due.town(15, new int[23]);
        x.room(7, 20, 3);
        x.person(4, 7);
        Due.enact(x, "y=4&m=20");
        Due.due("12 may(15, 23)", x.may(15, 23), 1);
        Due.due("12 may(14, 23)", x.may(14, 23), 0);
        Due.due("12 may(15, 22)", x.may(15, 22), 0);
        Due.due("12 may(16, 23)", x.may(16, 23), BAD);
        Due.due("12 may(15, 24)", x.may(15, 24), BAD);
    }

    static void mayInEachStruckHouse() {
        for (int house = 0; house < 8; house++) {
            TermLodgings x = one(1, house, 0, 0);
            x.strike((house + 1) % 8);
            Due.due("12 another HOUSE STRUCK: may(0, 0)", x.may(0, 0), 1);
            x.strike(house);
            Due.due("12 HOUSE " + house + " STRUCK: may(0, 0)", x.may(0, 0), 0);
            mayIs(x, "y=1", 0);
            mayIs(x, "y=1&", 0);
        }
    }

    static void mayWhetherAnotherHasItOrNot() {
        TermLodgings x = Due.town(2, 0);
        x.give(1, 0);
        Due.due("12 another has it: may(0, 0)", x.may(0, 0), 1);
    }

    // ---- 13 wrong

    static void wrongOfNobody() {
        TermLodgings x = Due.town(0, 0);
        Due.enact(x, "y=9");
        Due.due("13 nobody: wrong()", x.wrong(), 0);
    }

    static void wrongWithoutARoom() {
        TermLodgings x = Due.town(16, 0);
        Due.enact(x, "y=9");
        Due.due("13 nobody has a ROOM: wrong()", x.wrong(), 0);
    }

    static void wrongOfAll() {
        TermLodgings x = Due.town(16, new int[24]);
        for (int p = 0; p < 16; p++) {
            x.give(p, 23 - p);
        }
        Due.due("13 no STATUTE: wrong()", x.wrong(), 0);
        Due.typeAll(x, "y=9");
        Due.due("13 all: wrong()", x.wrong(), 65535);
        x.type('|');
        Due.due("13 a FAULT: wrong()", x.wrong(), 0);
    }

    static void wrongOfTheFirstAndTheLast() {
        TermLodgings x = new TermLodgings();
        for (int p = 0; p < 16; p++) {
            x.room(0, 0, p == 0 ? 1 : p == 15 ? 2 : 0);
            x.person(1, NONE);
            x.give(p, p);
        }
        Due.enact(x, "s=0|s=2");
        Due.due("13 the first: wrong()", x.wrong(), 1);
        Due.enact(x, "s<2");
        Due.due("13 the last: wrong()", x.wrong(), 32768);
        Due.enact(x, "s=0");
        Due.due("13 both: wrong()", x.wrong(), 32769);
    }

    static void wrongBehindAStrike() {
        TermLodgings x = Due.town(2, 0, 1);
        x.give(0, 0);
        x.give(1, 1);
        x.strike(0);
        Due.due("13 who lost a ROOM is not wrong()", x.wrong(), 0);
    }
}
