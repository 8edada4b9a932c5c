/** Classes of people from which tests set out. */
final class Worlds {
    private Worlds() {
    }

    static InTwosInSpanish nobody() {
        return new InTwosInSpanish();
    }

    /** PERSONS, a 0, by their WORDS. */
    static InTwosInSpanish persons(int... words) {
        InTwosInSpanish x = new InTwosInSpanish();
        for (int w : words) {
            x.person(0, 0, w);
        }
        return x;
    }

    /** People, each told as KIND, a, WORDS. */
    static InTwosInSpanish people(int... told) {
        InTwosInSpanish x = new InTwosInSpanish();
        for (int i = 0; i + 2 < told.length; i += 3) {
            x.person(told[i], told[i + 1], told[i + 2]);
        }
        return x;
    }

    /** One of each KIND: a PERSON, a SHY, a QUICK, a SILENT, a BORED one and a GUEST. */
    static InTwosInSpanish six() {
        return people(0, 1, 30, 1, 2, 45, 2, 7, 80, 3, 4, 10, 4, 5, 60, 5, 0, 99);
    }

    /** Eight PERSONS alike, who SPEAK 40 and LEARN 6 with each. */
    static InTwosInSpanish eight() {
        return persons(50, 50, 50, 50, 50, 50, 50, 50);
    }

    /**
     * The six, 3 WRONG, with an image of the first three. SHELVES: 0 four bytes, 1 three ints, 2 the SHY one,
     * 3 NOTHING, 4 the GUEST, 5 a ROW of no bytes, 6 forty bytes, 7 the SILENT one. THE TAPE: minutes 7.
     */
    static InTwosInSpanish shelved() {
        InTwosInSpanish x = people(0, 1, 30, 1, 2, 45, 2, 7, 80);
        x.image();
        x.person(3, 4, 10);
        x.person(4, 5, 60);
        x.person(5, 0, 99);
        x.wrong(3, true);
        x.seed(5);
        fill(x, 0, 0, 1, 2, 3, 4);
        fill(x, 1, 2, 7, 8, 9);
        x.show(2, 1);
        x.show(4, 5);
        x.row(5, 0, 0);
        x.row(6, 0, 40);
        x.show(7, 3);
        feed(x, "minutes 7");
        return x;
    }

    static void fill(InTwosInSpanish x, int s, int sort, long... elements) {
        x.row(s, sort, elements.length);
        for (int i = 0; i < elements.length; i++) {
            x.set(s, i, elements[i]);
        }
    }

    static void feed(InTwosInSpanish x, String text) {
        for (int i = 0; i < text.length(); i++) {
            x.feed(text.charAt(i));
        }
    }

    static int read(InTwosInSpanish x, String text) {
        feed(x, text);
        return x.group();
    }
}
