/** Promises 9 to 13: THE STATUTE. */
public final class StatuteTest {
    private static final int NONE = TermLodgings.NONE, BAD = TermLodgings.BAD, FULL = TermLodgings.FULL;

    public static void main(String[] args) {
        type();
        repeal();
        fault();
        may();
        mayByYearMilesSortHouse();
        mayByCases();
        mayAfterRepeal();
        wrong();
        Due.finish();
    }

    private static void type() {
        TermLodgings x = new TermLodgings();
        Due.due("9 type(31)", x.type(31), BAD);
        Due.due("9 type(127)", x.type(127), BAD);
        Due.due("9 type(-1)", x.type(-1), BAD);
        Due.due("9 type('y' + 256)", x.type('y' + 256), BAD);
        Due.due("9 refused: count(2)", x.count(2), 0);
        Due.due("9 type(32)", x.type(32), 1);
        Due.due("9 type(126)", x.type(126), 2);
        for (int n = 3; n <= 60; n++) {
            Due.due("9 type('y')", x.type('y'), n);
        }
        Due.due("9 a 61st byte", x.type('y'), FULL);
        Due.due("9 a 61st byte that is BAD", x.type(31), BAD);
        Due.due("9 full: count(2)", x.count(2), 60);
    }

    private static void repeal() {
        TermLodgings x = new TermLodgings();
        Due.typeAll(x, "y=1&q");
        Due.due("10 repeal()", x.repeal(), 5);
        Due.due("10 repeal() again", x.repeal(), 0);
        Due.due("10 repealed: count(2)", x.count(2), 0);
        Due.due("10 repealed: fault()", x.fault(), NONE);
        Due.due("10 repealed: type('y')", x.type('y'), 1);
        Due.due("10 begun anew: fault()", x.fault(), 1);
    }

    private static void faultIs(String text, int due) {
        TermLodgings x = new TermLodgings();
        Due.typeAll(x, text);
        Due.due("11 fault() of '" + text + "'", x.fault(), due);
    }

    private static void fault() {
        faultIs("", NONE);
        faultIs("y=1", NONE);
        faultIs("m<20", NONE);
        faultIs("s>003", NONE);
        faultIs("h=1&y<2|m>999", NONE);
        faultIs("y", 1);
        faultIs("y=", 2);
        faultIs("y=1&", 4);
        faultIs("y=1|", 4);
        faultIs("y=1|m", 5);
        faultIs("x", 0);
        faultIs("&", 0);
        faultIs("|y=1", 0);
        faultIs("=1", 0);
        faultIs("1", 0);
        faultIs(" y=1", 0);
        faultIs("Y=1", 0);
        faultIs("yy", 1);
        faultIs("y1", 1);
        faultIs("y!1", 1);
        faultIs("y==1", 2);
        faultIs("y=&", 2);
        faultIs("y=|", 2);
        faultIs("y=-1", 2);
        faultIs("y=1 ", 3);
        faultIs("y=1y", 3);
        faultIs("y=/", 2);
        faultIs("y=:", 2);
        faultIs("y=1:", 3);
        faultIs("y=1&&", 4);
        faultIs("y=1||", 4);
        faultIs("y=1&|", 4);
        faultIs("y=1234", 5);
        faultIs("y=0001", 5);
        faultIs("y=1&m<1234&", 9);
        faultIs("y=1!&m<1", 3);
        faultIs("y<5&".repeat(15), 60);
        faultIs("y<5&".repeat(14) + "y<51", NONE);
        faultIs("y<5|".repeat(14) + "y<5y", 59);
    }

    private static void may() {
        TermLodgings x = Due.town(1, 0, 1);
        Due.due("12 may(-1, 0)", x.may(-1, 0), BAD);
        Due.due("12 may(1, 0)", x.may(1, 0), BAD);
        Due.due("12 may(0, -1)", x.may(0, -1), BAD);
        Due.due("12 may(0, 2)", x.may(0, 2), BAD);
        Due.due("12 no statute: may(0, 0)", x.may(0, 0), 1);
        Due.enact(x, "y=2");
        Due.due("12 y=2: may(0, 0)", x.may(0, 0), 0);
        x.type('&');
        Due.due("12 a fault at the end: may(0, 0)", x.may(0, 0), 1);
        Due.enact(x, "y=2!");
        Due.due("12 a fault: may(0, 0)", x.may(0, 0), 1);
        Due.enact(x, "y=1");
        x.strike(0);
        Due.due("12 STRUCK: may(0, 0)", x.may(0, 0), 0);
        Due.due("12 LICENSED: may(0, 1)", x.may(0, 1), 1);
        x.type('!');
        Due.due("12 STRUCK, a fault: may(0, 0)", x.may(0, 0), 0);
        x.repeal();
        Due.due("12 STRUCK, no statute: may(0, 0)", x.may(0, 0), 0);
        x.license(0);
        Due.due("12 LICENSED again: may(0, 0)", x.may(0, 0), 1);
    }

    private static void mayIs(String text, int due) {
        TermLodgings x = new TermLodgings();
        x.room(5, 17, 2);
        x.person(3, 1);
        Due.typeAll(x, text);
        Due.due("12 may(0, 0) by '" + text + "'", x.may(0, 0), due);
    }

    private static void mayByYearMilesSortHouse() {
        String letters = "ymsh";
        int[] values = {3, 17, 2, 5};
        for (int i = 0; i < 4; i++) {
            for (int near = -1; near <= 1; near++) {
                int number = values[i] + near;
                mayIs(letters.charAt(i) + "<" + number, near > 0 ? 1 : 0);
                mayIs(letters.charAt(i) + "=" + number, near == 0 ? 1 : 0);
                mayIs(letters.charAt(i) + ">" + number, near < 0 ? 1 : 0);
            }
        }
        mayIs("m=017", 1);
        mayIs("m=170", 0);
        mayIs("m<999", 1);
        mayIs("m>0", 1);
        mayIs("m=71", 0);
    }

    private static void mayByCases() {
        mayIs("y=3&h=5", 1);
        mayIs("y=3&h=4", 0);
        mayIs("y=2&h=5", 0);
        mayIs("y=2|h=5", 1);
        mayIs("y=3|h=4", 1);
        mayIs("y=2|h=4", 0);
        mayIs("y=2&h=5|m=17", 1);
        mayIs("y=3|h=4&m=1", 1);
        mayIs("y=2|h=5&m=1", 0);
        mayIs("y=2|h=4|s=2&m=17&y>2", 1);
        mayIs("y=2&s=2|h=4&s=2|s=2&m=16", 0);
        mayIs("y=1|".repeat(14) + "y=3", 1);
        mayIs("y=3&".repeat(14) + "y=1", 0);
    }

    private static void mayAfterRepeal() {
        TermLodgings x = Due.town(1, 0);
        Due.enact(x, "y=2&h=0");
        Due.enact(x, "y=1");
        Due.due("12 the new statute alone: may(0, 0)", x.may(0, 0), 1);
        Due.enact(x, "y=1&");
        Due.enact(x, "y=2|h=1");
        Due.due("12 the new statute alone: may(0, 0)", x.may(0, 0), 0);
        Due.enact(x, "m=9");
        Due.enact(x, "m=0");
        Due.due("12 a number begun anew: may(0, 0)", x.may(0, 0), 1);
    }

    private static void wrong() {
        TermLodgings x = new TermLodgings();
        for (int n = 0; n < 16; n++) {
            x.room(n % 8, 0, 0);
            x.person(1 + n % 2, NONE);
        }
        for (int n = 0; n < 15; n++) {
            x.give(n, n);
        }
        Due.due("13 wrong()", x.wrong(), 0);
        Due.enact(x, "y=1");
        Due.due("13 y=1: wrong()", x.wrong(), 0x2AAA);
        Due.enact(x, "y=2");
        Due.due("13 y=2: wrong()", x.wrong(), 0x5555);
        Due.enact(x, "y=9");
        Due.due("13 y=9: wrong()", x.wrong(), 0x7FFF);
        x.type('|');
        Due.due("13 a fault: wrong()", x.wrong(), 0);
        x.repeal();
        x.give(15, 15);
        Due.enact(x, "h<7");
        Due.due("13 h<7: wrong()", x.wrong(), 1 << 7 | 1 << 15);
    }
}
