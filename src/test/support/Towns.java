/** Objects in three states, to try calls on: new, amid a term, and full in all that has a limit. */
enum Towns {
    NEW,
    SOME,
    FULL;

    private static final int NONE = TermLodgings.NONE;

    TermLodgings made() {
        TermLodgings x = new TermLodgings();
        switch (this) {
            case SOME -> fillSome(x);
            case FULL -> fillWhole(x);
            default -> { }
        }
        return x;
    }

    /** One is AWAY, one MAY not live where they do, one has no ROOM, two would trade; HOUSE 5 is STRUCK. */
    private static void fillSome(TermLodgings x) {
        int[][] rooms = {{0, 3, 1}, {0, 5, 2}, {1, 9, 0}, {2, 1, 1}, {2, 20, 3}, {3, 0, 0}, {5, 7, 2}, {7, 12, 1}};
        for (int[] room : rooms) {
            x.room(room[0], room[1], room[2]);
        }
        int[][] people = {{1, NONE}, {2, 3}, {3, 3}, {4, NONE}, {2, 0}, {1, 7}};
        for (int[] person : people) {
            x.person(person[0], person[1]);
        }
        Due.wishes(x, 0, 3, 2, 5);
        Due.wishes(x, 1, 0, 1, 4);
        Due.wishes(x, 2, 1);
        Due.wishes(x, 3, 2, 0);
        Due.wishes(x, 5, 6, 5, 3, 7);
        x.draw(7);
        x.deal();
        x.price(0, 0, 10);
        x.price(1, 2, 30);
        x.pass(4);
        x.strike(5);
        Due.wishes(x, 1, 1, 0, 4);
        Due.wishes(x, 2, 0);
        x.trade();
        x.away(2, true);
        x.price(0, 3, 25);
        x.pass(3);
        Due.wishes(x, 1, 0, 1, 4);
        Due.wishes(x, 2, 1);
        x.change(0, 4);
        Due.typeAll(x, "y>2|m<3|h=0");
    }

    /** No ROOM, PERSON, WISH, byte, NIGHT or telling more can be taken; HOUSE 7 is STRUCK. */
    private static void fillWhole(TermLodgings x) {
        for (int room = 0; room < 24; room++) {
            x.room(room % 8, room % 21, room % 4);
        }
        for (int p = 0; p < 16; p++) {
            x.person(1 + p % 4, p % 9 - 1);
            for (int k = 0; k < 8; k++) {
                x.wish(p, (5 * p + 3 * k) % 24);
            }
            x.give(p, 23 - p);
        }
        for (int n = 0; n < 40; n++) {
            x.price(n % 8, 7 * n % 60, 25 * n);
        }
        x.pass(20);
        x.trade();
        x.away(15, true);
        x.pass(20);
        x.strike(7);
        x.pass(20);
        x.draw(-5);
        Due.typeAll(x, "y=1|".repeat(14) + "m<12");
    }
}
