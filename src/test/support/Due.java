/** Compares answers with those that are due, tells the wrong ones, and ends the program with 1 if there was one. */
final class Due {
    private static int wrong = 0;

    private Due() {
    }

    static void due(String call, long got, long want) {
        if (got != want) {
            wrong++;
            System.out.println(call + " answered " + got + ", due is " + want);
        }
    }

    static void finish() {
        System.out.println(wrong == 0 ? "all answers are as due" : wrong + " answers are not as due");
        if (wrong != 0) {
            System.exit(1);
        }
    }

    /** Types a text behind THE STATUTE. */
    static void typeAll(TermLodgings x, String text) {
        for (int i = 0; i < text.length(); i++) {
            x.type(text.charAt(i));
        }
    }

    /** Puts a text in the place of THE STATUTE. */
    static void enact(TermLodgings x, String text) {
        x.repeal();
        typeAll(x, text);
    }

    /** An object with ROOMS of these HOUSES (MILES 0, SORT 0) and so many PEOPLE (YEAR 1, no GROUP). */
    static TermLodgings town(int people, int... houses) {
        TermLodgings x = new TermLodgings();
        for (int house : houses) {
            x.room(house, 0, 0);
        }
        for (int p = 0; p < people; p++) {
            x.person(1, TermLodgings.NONE);
        }
        return x;
    }

    /** One's WISHES become these. */
    static void wishes(TermLodgings x, int person, int... rooms) {
        x.content(person);
        for (int room : rooms) {
            x.wish(person, room);
        }
    }

    /** The ROOMS of PEOPLE 0, 1 .. are these. */
    static void lodgings(String call, TermLodgings x, int... rooms) {
        for (int p = 0; p < rooms.length; p++) {
            due(call + ": about(" + p + ", 3)", x.about(p, 3), rooms[p]);
        }
    }
}
