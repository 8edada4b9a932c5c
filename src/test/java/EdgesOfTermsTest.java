import java.io.IOException;

/** The section "Terms", sentence by sentence, at its boundary cases. */
public final class EdgesOfTermsTest {
    private static final int NONE = InTwosInSpanish.NONE;
    private static final int BAD = -2;
    private static final int OTHER = -3;
    private static final int NOTHING = -4;
    private static final int STUCK = -5;
    private static final int FULL = -6;
    private static final int FAULT = -20;
    private static final int[] ROUND_COUNTS = {0, 1, 1, 3, 3, 5, 5, 7, 7};

    private final Sentences t;

    private EdgesOfTermsTest(Sentences t) {
        this.t = t;
    }

    public static void main(String[] args) throws IOException {
        Sentences t = new Sentences();
        EdgesOfTermsTest test = new EdgesOfTermsTest(t);
        t.within("What it is");
        test.calls();
        t.under("Terms");
        test.people();
        test.kinds();
        test.numbersOfOne();
        test.wrongAndMetAtFirst();
        test.minutesAbsentEvenings();
        test.tape();
        test.tokens();
        test.blanks();
        test.statements();
        test.statementNumbers();
        test.allOrNothing();
        test.faults();
        test.tooEarly();
        test.speaks();
        test.learns();
        test.wrongBehind();
        test.wordsBehind();
        test.roundCount();
        test.roundPairs();
        test.tonight();
        test.rather();
        test.ahead();
        test.cured();
        test.listen();
        test.kindsAndSpans();
        test.hold();
        test.stay();
        test.toldEvening();
        test.inTruth();
        test.draws();
        test.shelves();
        test.rows();
        test.refusals();
        t.end();
    }

    private void calls() {
        t.sentence("An object is used for at most 512 calls after it has been made");
        InTwosInSpanish x = new InTwosInSpanish();
        for (int n = 0; n < 511; n++) {
            x.drawn(40);
        }
        t.due("the 512th call, EVENINGS", x.status(3), 511 * 40);
        InTwosInSpanish y = new InTwosInSpanish();
        for (int n = 0; n < 511; n++) {
            y.feed(-1);
        }
        t.due("the 512th call, BAD", y.status(12), 511);
    }

    // ---- THE CLASS ----

    private void people() {
        t.sentence("PEOPLE have numbers, 0 on, 8 at most");
        InTwosInSpanish x = new InTwosInSpanish();
        for (int n = 0; n < 8; n++) {
            t.due("one more", x.person(0, 0, n), n);
            t.due("the last", x.personOf(n, 2), n);
            t.due("none behind him", x.personOf(n + 1, 2), BAD);
        }
        t.due("none ahead of 0", x.personOf(-1, 2), BAD);
        t.due("a ninth", x.person(0, 0, 0), FULL);
        t.due("a ninth from THE TAPE", Worlds.read(x, "person 0 0 0"), FAULT);
        t.due("eight", x.status(0), 8);
    }

    private void kinds() {
        t.sentence("each of a KIND: 0 PERSON; 1 SHY, 2 QUICK, 5 GUEST, each under PERSON; 3 SILENT, under SHY; "
                + "4 BORED, under QUICK");
        String[] taken = {"0", "01", "02", "013", "024", "05"};
        for (int own = 0; own < 6; own++) {
            InTwosInSpanish x = Worlds.people(own, 0, 0);
            t.due("KIND", x.personOf(0, 0), own);
            x.show(0, 0);
            for (int kind = 0; kind < 6; kind++) {
                boolean isSo = taken[own].indexOf('0' + kind) >= 0;
                t.due(own + " taken for " + kind, x.says(0, kind) == OTHER ? 0 : 1, isSo ? 1 : 0);
            }
        }
        t.range(Worlds::nobody, "person", 0, 0, 5, 0, 0, 0);
        t.range(Worlds::nobody, "ofKind", 0, 0, 5, 0);
    }

    private void numbersOfOne() {
        t.sentence("a (0 to 9)");
        t.range(Worlds::nobody, "person", 1, 0, 9, 0, 0, 0);
        InTwosInSpanish x = Worlds.people(0, 0, 5, 0, 9, 5);
        t.due("least a", x.personOf(0, 1), 0);
        t.due("greatest a", x.personOf(1, 1), 9);
        t.due("least a from THE TAPE", Worlds.read(x, "person 0 0 5"), 1);
        t.due("greatest a from THE TAPE", Worlds.read(x, "person 0 9 5"), 1);
        t.due("a too great from THE TAPE", Worlds.read(x, "person 0 10 5"), FAULT - 9);
        t.due("least a", x.personOf(2, 1), 0);
        t.due("greatest a", x.personOf(3, 1), 9);

        t.sentence("WORDS (0 to 99)");
        t.range(Worlds::nobody, "person", 2, 0, 99, 0, 0, 0);
        t.range(Worlds::six, "words", 1, 0, 99, 5, 0);
        InTwosInSpanish y = Worlds.persons(0, 99);
        t.due("least WORDS", y.personOf(0, 2), 0);
        t.due("greatest WORDS", y.personOf(1, 2), 99);
        t.due("from THE TAPE", Worlds.read(y, "words 0 99;words 1 0;person 0 0 99;person 0 0 0"), 4);
        t.due("greatest WORDS", y.personOf(0, 2), 99);
        t.due("least WORDS", y.personOf(1, 2), 0);
        t.due("greatest WORDS", y.personOf(2, 2), 99);
        t.due("least WORDS", y.personOf(3, 2), 0);
    }

    private void wrongAndMetAtFirst() {
        t.sentence("WRONG or not (not at first)");
        InTwosInSpanish x = Worlds.persons(10);
        t.due("not at first", x.personOf(0, 3), 0);
        Worlds.read(x, "person 0 0 0");
        t.due("not at first, from THE TAPE", x.personOf(1, 3), 0);
        x.image();
        x.person(0, 0, 0);
        x.wrong(2, true);
        x.back();
        x.person(0, 0, 0);
        t.due("not at first, where one was WRONG of that number", x.personOf(2, 3), 0);

        t.sentence("MET (bits: with whom he has talked in truth; nobody at first)");
        InTwosInSpanish y = Worlds.eight();
        Worlds.fill(y, 0, 0, 0, 7);
        y.ahead(0, 7);
        y.spread(7);
        y.often(0, 7, 99);
        y.after(0, 7);
        y.learned(0, 1);
        y.lesson(0, 1);
        y.until(999);
        y.turned(0, true);
        y.cured(0);
        t.due("nobody at first, whatever is asked", y.personOf(0, 4), 0);
        y.talk(0, 7);
        t.due("0 with 7", y.personOf(0, 4), 128);
        t.due("7 with 0", y.personOf(7, 4), 1);
        y.evening(7);
        t.due("0 with all, not himself", y.personOf(0, 4), 254);
        t.due("7 with all, not himself", y.personOf(7, 4), 127);
        InTwosInSpanish z = Worlds.persons(5);
        z.image();
        z.person(0, 0, 5);
        z.talk(0, 1);
        z.back();
        z.person(0, 0, 5);
        t.due("nobody at first, where one had MET of that number", z.personOf(1, 4), 0);
    }

    private void minutesAbsentEvenings() {
        t.sentence("MINUTES (1 to 9; 4 at first).");
        t.due("at first", new InTwosInSpanish().status(1), 4);
        t.range(Worlds::nobody, "tell", 1, 1, 9, 0, 4);
        int[] faults = {FAULT - 8, 1, 1, FAULT - 8};
        int[] minutes = {0, 1, 9, 10};
        for (int i = 0; i < 4; i++) {
            String text = "minutes " + minutes[i];
            t.due(text, Worlds.read(new InTwosInSpanish(), text), faults[i]);
        }

        t.sentence("ABSENT (0 to 12; 1 at first).");
        t.due("at first", new InTwosInSpanish().status(2), 1);
        t.range(Worlds::nobody, "tell", 1, 0, 12, 1, 4);
        t.due("absent 0", Worlds.read(new InTwosInSpanish(), "absent 0"), 1);
        t.due("absent 12", Worlds.read(new InTwosInSpanish(), "absent 12"), 1);
        t.due("absent 13", Worlds.read(new InTwosInSpanish(), "absent 13"), FAULT - 7);

        t.sentence("EVENINGS (0 at first).");
        t.due("at first", new InTwosInSpanish().status(3), 0);
    }

    // ---- THE TAPE ----

    private void reads(String text, int want) {
        InTwosInSpanish x = Worlds.persons(1, 2);
        t.due("'" + text + "'", Worlds.read(x, text), want);
        t.due("behind '" + text + "', BAD", x.status(12), want < 0 ? 1 : 0);
        t.due("behind '" + text + "', THE TAPE", x.status(6), 0);
    }

    private void fault(String text, int at) {
        reads(text, FAULT - at);
    }

    private void tape() {
        t.sentence("A CLASS is read from THE TAPE (bytes, 250 at most).");
        InTwosInSpanish x = Worlds.persons(1);
        Worlds.feed(x, " ".repeat(240) + "words 0 75");
        t.due("250 bytes", x.status(6), 250);
        t.due("one more", x.feed('5'), FULL);
        t.due("the last byte is read too", x.group(), 1);
        t.due("WORDS by the last byte", x.personOf(0, 2), 75);
        InTwosInSpanish y = Worlds.persons(1);
        Worlds.feed(y, "words 0 7" + " ".repeat(240) + "x");
        t.due("a FAULT at the last byte", y.group(), FAULT - 249);
        t.range(Worlds::nobody, "feed", 0, 0, 255, 0);
        InTwosInSpanish z = Worlds.persons(1);
        Worlds.read(z, "words 0 75");
        Worlds.feed(z, "words 0 7");
        t.due("what was read before is gone", z.group(), 1);
        t.due("WORDS", z.personOf(0, 2), 7);
    }

    private void tokens() {
        t.sentence("TOKENS, each as long as can be: WORDS (a .. z), NUMBERS (digits), the SIGN ;");
        reads("person0 9 99;wrong2;right2;words2 0;minutes9;absent0", 6);
        reads("minutes 09", 1);
        fault("personperson 0 0 0", 0);
        fault("zminutes 4", 0);
        fault("minutesa 4", 0);
        fault("minutesz 4", 0);
        fault("minute 4", 0);
        fault("words 01 5 5", 11);
        fault("minutes 4absent 1", 9);
        fault("minutes 45", 8);
        fault("minutes 4 5", 10);
        fault("minutes;4", 7);
        reads("words01 05", 1);
        int[] beyond = {'`', '{', '@', '[', 'M', '/', ':', '<', '-', '+', '.', 0, 31, 33, 127, 128, 160, 255};
        for (int b : beyond) {
            fault("minutes 4" + (char) b, 9);
            fault((char) b + "minutes 4", 0);
            fault("minutes" + (char) b + "4", 7);
        }
        fault((char) ('m' + 128) + "inutes 4", 0);
        fault("minutes " + (char) ('4' + 128), 8);
        fault("minutes 4" + (char) (';' + 128) + "absent 1", 9);
    }

    private void blanks() {
        t.sentence("- blanks (32) may stand anywhere between.");
        reads("   minutes   4   ;   absent   1   ", 2);
        reads("minutes4;absent1", 2);
        fault("min utes 4", 0);
        fault("absent 1 2", 9);
        fault("minutes" + (char) 9 + "4", 7);
        fault("minutes 4;" + (char) 10 + "absent 1", 10);
        fault((char) 13 + "minutes 4", 0);
        fault("minutes 4" + (char) 160, 9);
        fault("minutes " + (char) 0 + "4", 8);
    }

    private void statements() {
        t.sentence("STATEMENTS, one or more, with ; between:");
        fault("", 0);
        fault("  ", 2);
        fault(";", 0);
        fault(" ;minutes 4", 1);
        fault("minutes 4;", 10);
        fault("minutes 4;;absent 1", 10);
        fault("minutes 4 absent 1", 10);
        fault("minutes 4 4", 10);
        fault("4", 0);
        reads("minutes 4", 1);
        reads("right0;".repeat(34) + "right0", 35);
        fault("right0;".repeat(35), 245);
    }

    private void statementNumbers() {
        t.sentence("person K A W;");
        reads("person 0 0 0;person 5 9 99", 2);
        fault("person 6 0 0", 7);
        fault("person 0 10 0", 9);
        fault("person 0 0 100", 11);
        fault("person 0 0;", 10);
        fault("person 0;", 8);
        fault("person;", 6);
        fault("person 0 0 0 0", 13);
        fault("person a 0 0", 7);

        t.sentence("wrong X (no GUEST);");
        reads("wrong 0;wrong 1;wrong 1", 3);
        fault("wrong 2", 6);
        fault("wrong 99", 6);
        reads("person 0 0 0;wrong 2", 2);
        fault("wrong 2;person 0 0 0", 6);
        fault("person 5 0 0;wrong 2", 19);
        fault("wrong;", 5);
        fault("wrong 0 0", 8);
        InTwosInSpanish x = Worlds.persons(1, 2);
        Worlds.read(x, "wrong 1");
        t.due("WRONG", x.spread(0), 2);

        t.sentence("right X (not WRONG any more);");
        Worlds.read(x, "wrong 0;right 1");
        t.due("not WRONG any more", x.spread(0), 1);
        reads("right 0;right 1", 2);
        fault("right 2", 6);
        fault("right;", 5);
        reads("person 5 0 0;right 2", 2);

        t.sentence("words X W;");
        reads("words 0 0;words 1 99", 2);
        fault("words 2 0", 6);
        fault("words 0 100", 8);
        fault("words 0;", 7);
        fault("words;", 5);
        reads("person 5 0 0;words 2 5", 2);

        t.sentence("minutes N;");
        reads("minutes 1;minutes 9", 2);
        fault("minutes 0", 8);
        fault("minutes 10", 8);
        fault("minutes;", 7);

        t.sentence("absent N.");
        reads("absent 0;absent 12", 2);
        fault("absent 13", 7);
        fault("absent;", 6);
    }

    private void allOrNothing() {
        t.sentence("All comes to what there is, or nothing.");
        String text = "person 1 2 3;wrong 0;right 1;words 0 9;minutes 7;absent 5";
        InTwosInSpanish x = Worlds.persons(1, 2);
        x.wrong(1, true);
        x.seed(9);
        x.image();
        t.due("a FAULT at the end", Worlds.read(x, text + ";x"), FAULT - 58);
        int[] before = {2, 4, 1, 0, 3, 1, 0, 9, 0};
        for (int what = 0; what < before.length; what++) {
            t.due("nothing came, status(" + what + ")", x.status(what), before[what]);
        }
        t.due("WRONG as it was", x.spread(0), 2);
        t.due("all comes", Worlds.read(x, text), 6);
        int[] behind = {3, 7, 5, 0, 14, 1, 0, 9, 0};
        for (int what = 0; what < behind.length; what++) {
            t.due("all came, status(" + what + ")", x.status(what), behind[what]);
        }
        t.due("WRONG now", x.spread(0), 1);
        t.due("what there was is there", x.personOf(1, 2), 2);
        t.due("KIND of the new one", x.personOf(2, 0), 1);
        InTwosInSpanish y = talked();
        Worlds.read(y, "words 0 5;x");
        t.due("MET stays", y.met(), 1);
        Worlds.read(y, "words 0 5");
        t.due("MET stays", y.met(), 1);
    }

    private static InTwosInSpanish talked() {
        InTwosInSpanish x = Worlds.persons(1, 2);
        x.talk(0, 1);
        return x;
    }

    private void faults() {
        t.sentence("The FAULT: the place of the first byte of the first TOKEN that can't stand there");
        fault("minutes 4;  absent 99;absent 99", 19);
        fault("   absent x", 10);
        fault("minutes 4;persons 1 1 1", 10);
        fault("x;?", 0);
        String[] words = {"person", "wrong", "right", "words", "minutes", "absent"};
        for (String word : words) {
            for (int i = 0; i < word.length(); i++) {
                fault("minutes 4; " + word.substring(0, i) + "q" + word.substring(i + 1) + " 1 1 1", 11);
            }
            fault("minutes 4; " + word.substring(1) + " 1 1 1", 11);
            fault("minutes 4; " + word.substring(0, word.length() - 1) + " 1 1 1", 11);
        }
        fault("?;x", 0);
        fault("minutes 0 ?", 8);

        t.sentence("(also a NUMBER that may not be, or has more than 2 digits;");
        fault("person 0 0 123", 11);
        fault("person 000 0 0", 7);
        reads("person 00 00 00", 1);
        fault("minutes 004", 8);
        reads("minutes 04", 1);
        fault("words 000 5", 6);
        fault("wrong 001", 6);
        fault("right 001", 6);
        fault("absent 4294967297", 7);
        fault("minutes 4294967300", 8);
        fault("minutes 18446744073709551620", 8);

        t.sentence("what there is no room for: its word;");
        InTwosInSpanish x = new InTwosInSpanish();
        t.due("nine at once", Worlds.read(x, "person 0 0 0;".repeat(8) + "person 0 0 0"), FAULT - 104);
        t.due("nobody came", x.status(0), 0);
        t.due("eight at once", Worlds.read(x, "person 0 0 0;".repeat(7) + "person 0 0 0"), 8);
        t.due("a ninth", Worlds.read(x, "minutes 5;  person 0 0 0"), FAULT - 12);
        t.due("a ninth that may not be: the word is the first", Worlds.read(x, " person 9 9 9"), FAULT - 1);
        t.due("a ninth that ends too early: the word is the first", Worlds.read(x, "person"), FAULT);

        t.sentence("a byte that begins none);");
        fault("minutes 4 " + (char) 255, 10);
        fault("minutes " + (char) 0, 8);
        fault("A", 0);
        fault("minutes 4;_", 10);
    }

    private void tooEarly() {
        t.sentence("THE TAPE's size, if it ends too early.");
        String whole = "person 0 0 0;wrong 0;right 0;words 0 0;minutes 4;absent 1";
        for (int cut : new int[] {6, 7, 8, 9, 10, 11, 13, 18, 19, 21, 26, 27, 29, 34, 35, 36, 37, 39, 46, 47, 49, 55, 56}) {
            fault(whole.substring(0, cut), cut);
            fault(whole.substring(0, cut) + "   ", cut + 3);
        }
        fault("", 0);
        fault(" ".repeat(250), 250);
        fault(" ".repeat(244) + "person", 250);
    }

    // ---- A TALK of two ----

    /** What the first of two SPEAKS with the second. */
    private static int spoken(int minutes, int... two) {
        InTwosInSpanish x = Worlds.people(two);
        x.tell(0, minutes);
        return x.speaks(0, 1);
    }

    private void speaks() {
        t.sentence("What one SPEAKS with another one: PERSON: MINUTES times the sum of 5 and a tenth of WORDS (cut).");
        t.due("WORDS 0", spoken(4, 0, 9, 0, 0, 0, 99), 20);
        t.due("WORDS 9", spoken(4, 0, 9, 9, 0, 0, 0), 20);
        t.due("WORDS 10", spoken(4, 0, 9, 10, 0, 0, 0), 24);
        t.due("WORDS 99", spoken(4, 0, 9, 99, 0, 0, 0), 56);
        t.due("MINUTES 1", spoken(1, 0, 0, 19, 0, 0, 0), 6);
        t.due("MINUTES 9", spoken(9, 0, 0, 99, 0, 0, 0), 126);

        t.sentence("SHY: half of that (cut).");
        t.due("5", spoken(1, 1, 9, 0, 0, 0, 0), 2);
        t.due("15", spoken(3, 1, 9, 9, 0, 0, 99), 7);
        t.due("126", spoken(9, 1, 9, 99, 0, 0, 0), 63);

        t.sentence("SILENT: as SHY, but nothing, if the other one's WORDS are above his by more than 20 and a.");
        t.due("by 20, a 0", spoken(4, 3, 0, 10, 0, 9, 30), 12);
        t.due("by 21, a 0", spoken(4, 3, 0, 10, 0, 9, 31), 0);
        t.due("by 29, a 9", spoken(4, 3, 9, 10, 0, 0, 39), 12);
        t.due("by 30, a 9", spoken(4, 3, 9, 10, 0, 0, 40), 0);
        t.due("below him by 99", spoken(4, 3, 0, 99, 0, 0, 0), 28);
        t.due("5, cut", spoken(1, 3, 0, 0, 0, 0, 20), 2);
        t.due("a GUEST above him", spoken(4, 3, 0, 10, 5, 0, 31), 0);

        t.sentence("QUICK: as a PERSON, and a more.");
        t.due("a 0", spoken(4, 2, 0, 9, 0, 9, 0), 20);
        t.due("a 9", spoken(4, 2, 9, 9, 0, 0, 0), 29);
        t.due("a 9, MINUTES 9", spoken(9, 2, 9, 99, 0, 0, 0), 135);

        t.sentence("BORED: as QUICK, but half of it (cut), if his WORDS are above the other one's by more than 10 and a.");
        t.due("by 10, a 0", spoken(4, 4, 0, 30, 0, 9, 20), 32);
        t.due("by 11, a 0", spoken(4, 4, 0, 30, 0, 9, 19), 16);
        t.due("by 19, a 9", spoken(4, 4, 9, 30, 0, 0, 11), 41);
        t.due("by 20, a 9, cut", spoken(4, 4, 9, 30, 0, 0, 10), 20);
        t.due("below by 99", spoken(4, 4, 3, 0, 0, 0, 99), 23);

        t.sentence("GUEST: MINUTES times 10.");
        t.due("WORDS 0, a 9", spoken(4, 5, 9, 0, 0, 0, 99), 40);
        t.due("WORDS 99", spoken(4, 5, 0, 99, 0, 0, 0), 40);
        t.due("MINUTES 1", spoken(1, 5, 0, 50, 0, 0, 0), 10);
        t.due("MINUTES 9", spoken(9, 5, 0, 50, 0, 0, 0), 90);
    }

    private static int gained(int minutes, int... two) {
        InTwosInSpanish x = Worlds.people(two);
        x.tell(0, minutes);
        return x.learns(0, 1);
    }

    private void learns() {
        t.sentence("What one LEARNS: what he SPEAKS, and half of what the other one SPEAKS (cut), by 10 (cut);");
        t.due("5 and half of 9, by 10", gained(1, 0, 0, 0, 0, 0, 40), 0);
        t.due("9 and half of 5, by 10", gained(1, 0, 0, 40, 0, 0, 0), 1);
        t.due("29 and half of 21, by 10", gained(4, 2, 9, 0, 2, 1, 0), 3);
        t.due("29 and half of 22, by 10", gained(4, 2, 9, 0, 2, 2, 0), 4);
        t.due("0 and half of 40, by 10", gained(4, 3, 0, 0, 5, 0, 40), 2);

        t.sentence("half of it (cut), if their WORDS differ by more than 40;");
        t.due("below by 40", gained(4, 0, 0, 0, 0, 0, 40), 3);
        t.due("below by 41, cut", gained(4, 0, 0, 0, 0, 0, 41), 1);
        t.due("above by 40", gained(4, 0, 0, 40, 0, 0, 0), 4);
        t.due("above by 41", gained(4, 0, 0, 41, 0, 0, 0), 2);
        t.due("below by 99", gained(4, 0, 0, 0, 0, 0, 99), 2);

        t.sentence("a GUEST nothing.");
        t.due("a GUEST", gained(9, 5, 9, 50, 0, 0, 50), 0);
        t.due("two GUESTS", gained(9, 5, 9, 50, 5, 0, 50), 0);
        t.due("with a GUEST", gained(9, 0, 0, 50, 5, 9, 50), 13);
    }

    /** Two of whom the first is WRONG, behind a TALK: bits. */
    private static int wrongBehind(int... two) {
        InTwosInSpanish x = Worlds.people(two);
        x.wrong(0, true);
        int told = x.after(0, 1) | x.after(1, 0) << 1;
        x.talk(0, 1);
        return told == x.spread(0) ? told : -1;
    }

    private void wrongBehind() {
        t.sentence("WRONG: if just one of both is: who SPEAKS more makes the other one as he is");
        t.due("the WRONG one by 1 more", wrongBehind(2, 1, 50, 0, 0, 50), 3);
        t.due("the right one by 1 more", wrongBehind(0, 0, 50, 2, 1, 50), 0);
        InTwosInSpanish x = Worlds.persons(0, 99);
        x.wrong(0, true);
        x.wrong(1, true);
        t.due("both are", x.after(0, 1) + x.after(1, 0), 2);
        InTwosInSpanish y = Worlds.persons(0, 99);
        t.due("none is", y.after(0, 1) + y.after(1, 0), 0);

        t.sentence("(a GUEST never becomes WRONG);");
        t.due("the WRONG one SPEAKS 56, a GUEST 40", wrongBehind(0, 0, 99, 5, 0, 99), 1);
        t.due("the WRONG one SPEAKS 36, a GUEST 40", wrongBehind(0, 0, 49, 5, 0, 49), 0);

        t.sentence("if both SPEAK as much, nothing.");
        t.due("both 40", wrongBehind(0, 0, 50, 0, 9, 59), 1);
        t.due("both 40, a GUEST", wrongBehind(0, 0, 50, 5, 0, 0), 1);
    }

    private void wordsBehind() {
        t.sentence("BEHIND it WORDS of each are what he LEARNS more (99 at most), all by how both were ahead.");
        int[] ahead = {90, 91, 92, 99};
        int[] behind = {98, 99, 99, 99};
        for (int i = 0; i < ahead.length; i++) {
            InTwosInSpanish x = Worlds.persons(ahead[i], 90);
            t.due("both LEARN 8", x.talk(0, 1), 16);
            t.due(ahead[i] + " and 8", x.personOf(0, 2), behind[i]);
            t.due("90 and 8", x.personOf(1, 2), 98);
        }
        InTwosInSpanish y = Worlds.persons(0, 41);
        y.talk(0, 1);
        t.due("the first, by a difference of 41", y.personOf(0, 2), 1);
        t.due("the second, by a difference of 41 still", y.personOf(1, 2), 43);
        InTwosInSpanish z = Worlds.persons(41, 0);
        z.talk(1, 0);
        t.due("the second, by a difference of 41 still", z.personOf(0, 2), 43);
        t.due("both SPOKE 36 ahead, the WRONG one 40 behind", wrongBehind(0, 0, 46, 0, 0, 40), 1);
    }

    // ---- ROUNDS ----

    private static InTwosInSpanish alike(int n) {
        InTwosInSpanish x = new InTwosInSpanish();
        for (int i = 0; i < n; i++) {
            x.person(0, 0, 50);
        }
        return x;
    }

    private void roundCount() {
        t.sentence("ROUNDS: N is how many PEOPLE there are, and 1 more, if that is odd (no ROUNDS, if N is below 2);");
        for (int n = 0; n <= 8; n++) {
            t.due("rounds of " + n, alike(n).rounds(), ROUND_COUNTS[n]);
        }
        t.refused(Worlds::nobody, BAD, "listen", 0);
        t.refused(Worlds::nobody, STUCK, "bestRound", 0);
    }

    private void roundPairs() {
        t.sentence("in ROUND r (0 to N less 2) the last of N (number N less 1) talks with r, each other x with that one "
                + "for whom x and he together are 2 times r modulo N less 1, or, if that is x himself, with the last of N;");
        int[][] ofEight = {{7, 6, 5, 4, 3, 2, 1, 0}, {2, 7, 0, 6, 5, 4, 3, 1}, {4, 3, 7, 1, 0, 6, 5, 2},
            {6, 5, 4, 7, 2, 1, 0, 3}, {1, 0, 6, 5, 7, 3, 2, 4}, {3, 2, 1, 0, 6, 7, 4, 5}, {5, 4, 3, 2, 1, 0, 7, 6}};
        for (int r = 0; r < 7; r++) {
            InTwosInSpanish x = alike(8);
            for (int p = 0; p < 8; p++) {
                t.due("ROUND " + r + " of eight, " + p, x.partner(p, r), ofEight[r][p]);
            }
        }
        t.due("two", alike(2).partner(0, 0), 1);
        t.due("two", alike(2).partner(1, 0), 0);
        for (int n = 1; n <= 8; n++) {
            int people = n;
            t.range(() -> alike(people), "partner", 1, 0, ROUND_COUNTS[n] - 1, 0, 0);
            eachHasEach(n);
        }

        t.sentence("who would talk with one that isn't there sits out.");
        for (int n = 1; n <= 7; n += 2) {
            InTwosInSpanish x = alike(n);
            for (int r = 0; r < n; r++) {
                t.due("ROUND " + r + " of " + n, x.partner(r, r), NONE);
                t.due("ROUND " + r + " of " + n, x.sitsOut(r), r);
            }
        }
    }

    private void eachHasEach(int n) {
        InTwosInSpanish x = alike(n);
        int[] met = new int[n];
        for (int r = 0; r < ROUND_COUNTS[n]; r++) {
            for (int p = 0; p < n; p++) {
                int other = x.partner(p, r);
                if (other != NONE) {
                    t.due("the other one has him", x.partner(other, r), p);
                    met[p] |= 1 << other;
                }
            }
        }
        for (int p = 0; p < n; p++) {
            t.due(p + " of " + n + " has each", met[p], (1 << n) - 1 & ~(1 << p));
        }
    }

    // ---- WHAT COMES OF IT ----

    private void partners(Sentences.World world, int... want) {
        for (int p = 0; p < want.length; p++) {
            t.asked(world, want[p], "tonight", p);
        }
    }

    private void tonight() {
        t.sentence("TONIGHT: PEOPLE parted into twos (one sits out, if they are odd) so that all LEARN most together, "
                + "of several the first by rows of partners (one by one; who sits out has himself): how much; whom one "
                + "has (himself: he sits out).");
        t.asked(Worlds::nobody, 0, "tonight", NONE);
        t.asked(() -> alike(1), 0, "tonight", NONE);
        partners(() -> alike(1), 0);
        partners(() -> alike(2), 1, 0);
        partners(() -> alike(3), 0, 2, 1);
        partners(() -> alike(4), 1, 0, 3, 2);
        partners(() -> alike(5), 0, 2, 1, 4, 3);
        partners(() -> alike(7), 0, 2, 1, 4, 3, 6, 5);
        partners(() -> alike(8), 1, 0, 3, 2, 5, 4, 7, 6);
        t.asked(() -> alike(7), 36, "tonight", NONE);
        t.asked(() -> alike(8), 48, "tonight", NONE);
        // 0 and 1 SPEAK 24, 2 and 3 SPEAK 32: unlike ones LEARN 4 each, like ones 3 or 4
        partners(() -> Worlds.persons(10, 10, 30, 30), 2, 3, 0, 1);
        t.asked(() -> Worlds.persons(10, 10, 30, 30), 16, "tonight", NONE);
        partners(() -> Worlds.persons(50, 50, 0), 1, 0, 2);
        partners(() -> Worlds.persons(50, 0, 50), 2, 1, 0);
        // who is even may not sit out, though nothing is LEARNED
        partners(() -> Worlds.people(5, 0, 0, 5, 0, 0), 1, 0);
    }

    private void rather() {
        t.sentence("RATHER: how many pairs of two, not with each other TONIGHT, would both LEARN more with each other "
                + "(who sits out LEARNS 0).");
        t.asked(Worlds::nobody, 0, "rather");
        t.asked(() -> alike(1), 0, "rather");
        t.asked(() -> alike(2), 0, "rather");
        // as much is not more: 0 sits out, the others LEARN 6 with each other and would with him
        t.asked(() -> alike(3), 0, "rather");
        // 0 sits out; 1 LEARNS 2 with 2, and would LEARN 3 with 0, who would LEARN 2
        t.asked(() -> Worlds.people(3, 0, 0, 0, 0, 20, 2, 0, 90), 1, "rather");
        // a GUEST who sits out would LEARN no more
        t.asked(() -> Worlds.people(5, 0, 0, 0, 0, 20, 2, 0, 90), 0, "rather");
        // 2 sits out and would LEARN just 1 with 0, who would LEARN 3, not 2
        t.asked(() -> Worlds.people(0, 0, 30, 0, 0, 80, 3, 0, 0), 1, "rather");
        t.asked(() -> Worlds.people(3, 0, 40, 1, 0, 70, 0, 0, 50, 0, 0, 50), 1, "rather");
    }

    private void ahead() {
        t.sentence("AHEAD r ROUNDS (0 to how many there are), the ROUNDS 0 to r less 1 one behind the other: "
                + "WORDS of one, WRONG ones (bits).");
        Sentences.World three = () -> wrongOf(Worlds.persons(50, 30, 10), 2);
        int[][] words = {{50, 30, 10}, {50, 34, 14}, {55, 34, 18}, {60, 39, 18}};
        int[] wrong = {2, 6, 2, 0};
        for (int r = 0; r <= 3; r++) {
            for (int p = 0; p < 3; p++) {
                t.asked(three, words[r][p], "ahead", p, r);
            }
            t.asked(three, wrong[r], "spread", r);
        }
        t.range(three, "ahead", 1, 0, 3, 0, 0);
        t.range(three, "spread", 0, 0, 3, 0);
        t.range(Worlds::nobody, "spread", 0, 0, 0, 0);
        t.range(() -> alike(1), "ahead", 1, 0, 1, 0, 0);
        t.range(Worlds::eight, "spread", 0, 0, 7, 0);
        t.asked(() -> Worlds.persons(91, 92), 99, "ahead", 0, 1);
        t.asked(() -> Worlds.persons(91, 92), 99, "ahead", 1, 1);
    }

    /** The same people, those of the set (bits) WRONG. */
    private static InTwosInSpanish wrongOf(InTwosInSpanish x, int set) {
        for (int p = 0; p < 8; p++) {
            if ((set >> p & 1) != 0) {
                x.wrong(p, true);
            }
        }
        return x;
    }

    private void cured() {
        t.sentence("CURED: the fewest PEOPLE to be put right now (of WRONG ones) so that nobody is WRONG behind all "
                + "ROUNDS: how many; the set (bits), of several the first; NONE: by none.");
        int[][] told = {{0, 0}, {1, 1}, {2, 0}, {3, 1}, {4, 0}, {5, 1}, {6, 0}, {7, 1}};
        for (int[] one : told) {
            Sentences.World world = () -> wrongOf(Worlds.persons(50, 30, 10), one[0]);
            t.asked(world, one[1], "cured", 1);
            t.asked(world, one[1], "cured", 0);
        }
        t.asked(Worlds::nobody, 0, "cured", 0);
        t.asked(Worlds::nobody, 0, "cured", 1);
        t.asked(() -> wrongOf(alike(1), 1), 1, "cured", 1);
        t.asked(() -> wrongOf(alike(8), 255), 8, "cured", 0);
        t.asked(() -> wrongOf(alike(8), 255), 255, "cured", 1);
        t.asked(() -> wrongOf(alike(8), 128), 128, "cured", 1);
        // the GUEST SPEAKS more than both and puts them right
        t.asked(() -> wrongOf(Worlds.people(0, 0, 0, 0, 0, 0, 5, 0, 0), 3), 0, "cured", 0);
    }

    private void listen() {
        t.sentence("LISTEN in ROUND r, as all are now: the one of a pair, the lesser by number, in which most is SPOKEN "
                + "by WRONG ones, of several the first; NONE: nobody who talks is WRONG.");
        // ROUND 0 of four: 0 with 3, 1 with 2
        t.asked(() -> alike(4), NONE, "listen", 0);
        t.asked(() -> wrongOf(alike(4), 4), 1, "listen", 0);
        t.asked(() -> wrongOf(alike(4), 8), 0, "listen", 0);
        t.asked(() -> wrongOf(alike(4), 12), 0, "listen", 0);
        t.asked(() -> wrongOf(alike(4), 14), 1, "listen", 0);
        t.asked(() -> wrongOf(alike(4), 15), 0, "listen", 0);
        t.asked(() -> wrongOf(Worlds.persons(99, 59, 60, 50), 12), 1, "listen", 0);
        t.asked(() -> wrongOf(alike(3), 1), NONE, "listen", 0);
        t.asked(() -> wrongOf(alike(3), 2), 1, "listen", 0);
        t.asked(() -> wrongOf(alike(1), 1), NONE, "listen", 0);
        t.asked(() -> wrongOf(Worlds.people(0, 0, 0, 0, 0, 0, 3, 0, 0, 0, 0, 49), 4), 1, "listen", 0);
        // ROUND 1 of four: 0 with 2, 1 with 3: the only WRONG one, 3, SPEAKS nothing
        t.asked(() -> wrongOf(Worlds.people(0, 0, 0, 0, 0, 90, 0, 0, 0, 3, 0, 0), 8), 0, "listen", 1);
    }

    private void kindsAndSpans() {
        t.sentence("KINDS (bits) of one by what he SPOKE with another one, all else as it is.");
        Sentences.World two = () -> alike(2);
        t.asked(two, 53, "kinds", 0, 1, 40);
        t.asked(two, 10, "kinds", 0, 1, 20);
        t.asked(two, 0, "kinds", 0, 1, 0);
        t.asked(two, 0, "kinds", 0, 1, 39);
        t.asked(two, 0, "kinds", 0, 1, 999);
        t.asked(() -> Worlds.persons(29, 50), 8, "kinds", 0, 1, 0);
        t.asked(() -> Worlds.persons(30, 50), 0, "kinds", 0, 1, 0);
        t.asked(() -> Worlds.persons(61, 50), 26, "kinds", 0, 1, 22);
        t.asked(() -> Worlds.persons(60, 50), 21, "kinds", 0, 1, 44);

        t.sentence("SPANS of one by it: the least and the greatest WORDS (0 to 99) by which he would have SPOKEN so; NONE.");
        spans(two, 20, 0, 9);
        spans(two, 56, 90, 99);
        spans(two, 21, NONE, NONE);
        spans(two, 0, NONE, NONE);
        spans(two, 60, NONE, NONE);
        spans(() -> Worlds.people(3, 0, 5, 0, 0, 99), 0, 0, 78);
        spans(() -> Worlds.people(3, 0, 5, 0, 0, 99), 24, 79, 79);
        spans(() -> Worlds.people(4, 0, 5, 0, 0, 0), 20, 0, 59);
        spans(() -> Worlds.people(5, 0, 5, 0, 0, 0), 40, 0, 99);
    }

    private void spans(Sentences.World world, int n, int least, int greatest) {
        t.asked(world, least, "spans", 0, 1, n, 0);
        t.asked(world, greatest, "spans", 0, 1, n, 1);
    }

    private void hold() {
        t.sentence("HOLD: the least MINUTES (1 to 9) by which all LEARN at least v together TONIGHT; NONE.");
        // by m MINUTES each LEARNS 15 times m by 10
        int[] most = {2, 6, 8, 12, 14, 18, 20, 24, 26};
        for (int m = 1; m <= 9; m++) {
            t.asked(() -> alike(2), m, "hold", most[m - 1]);
            t.asked(() -> alike(2), m == 9 ? NONE : m + 1, "hold", most[m - 1] + 1);
        }
        t.asked(() -> alike(2), 1, "hold", 0);
        t.asked(Worlds::nobody, 1, "hold", 0);
        t.asked(Worlds::nobody, NONE, "hold", 1);
        t.asked(() -> alike(1), NONE, "hold", 1);
    }

    private void stay() {
        t.sentence("STAY of one: in how many ROUNDS he LEARNS at least v, as all are now.");
        t.asked(Worlds::eight, 7, "stay", 7, 6);
        t.asked(Worlds::eight, 0, "stay", 7, 7);
        t.asked(() -> alike(3), 2, "stay", 0, 1);
        t.asked(() -> alike(3), 2, "stay", 0, 6);
        // who sits out LEARNS 0: so RATHER has it
        t.asked(() -> alike(3), 3, "stay", 0, 0);
        t.asked(() -> alike(1), 1, "stay", 0, 0);
        t.asked(() -> alike(1), 0, "stay", 0, 1);
    }

    private static InTwosInSpanish told(int people, long... elements) {
        InTwosInSpanish x = alike(people);
        Worlds.fill(x, 0, 3, elements);
        return x;
    }

    private void judged(int want, int people, long... elements) {
        t.asked(() -> told(people, elements), want, "judge", 0, elements.length / 2);
    }

    private void toldEvening() {
        t.sentence("A told EVENING: a ROW of pairs: WRONG: the first pair (0 on) that isn't of two unlike PEOPLE,");
        judged(0, 4, 1, 1);
        judged(0, 4, -1, 0);
        judged(0, 4, 0, -1);
        judged(0, 4, 4, 0);
        judged(0, 4, 0, 4);
        judged(NONE, 4, 0, 3);
        judged(NONE, 4, 3, 0);
        judged(0, 4, 1L << 32, 1);
        judged(0, 4, 0, (1L << 32) + 1);
        judged(0, 4, Long.MIN_VALUE, Long.MAX_VALUE);
        judged(1, 4, 0, 1, 2, 2);
        judged(0, 1, 0, 0);
        judged(0, 0, 0, 1);

        t.sentence("has one who talked already in its ROUND (ROUNDS of half of PEOPLE, cut, one behind the other),");
        judged(1, 4, 0, 1, 0, 2);
        judged(1, 4, 0, 1, 2, 0);
        judged(1, 4, 0, 1, 1, 2);
        judged(1, 4, 0, 1, 2, 1);
        judged(NONE, 4, 0, 1, 2, 3, 0, 2);
        judged(3, 4, 0, 1, 2, 3, 0, 2, 2, 1);
        judged(NONE, 3, 0, 1, 0, 2, 1, 2);
        judged(1, 5, 0, 1, 0, 2);
        judged(NONE, 5, 0, 1, 2, 3, 4, 0);
        judged(2, 6, 0, 1, 2, 3, 4, 0);
        judged(2, 7, 0, 1, 2, 3, 4, 0);
        judged(NONE, 7, 0, 1, 2, 3, 4, 5, 6, 0);
        judged(3, 8, 0, 1, 2, 3, 4, 5, 6, 0);
        judged(NONE, 8, 0, 1, 2, 3, 4, 5, 6, 7, 7, 0);

        t.sentence("or was told already (either way); NONE.");
        judged(1, 2, 0, 1, 0, 1);
        judged(1, 2, 0, 1, 1, 0);
        judged(2, 4, 0, 1, 2, 3, 1, 0);
        judged(4, 4, 0, 1, 2, 3, 0, 2, 3, 1, 0, 1, 1, 1, 0, 0);
        judged(3, 3, 0, 1, 0, 2, 1, 2, 2, 1);
        judged(4, 8, 0, 1, 2, 3, 4, 5, 6, 7, 7, 6);
        judged(NONE, 0);
        judged(NONE, 4, 0, 1, 2, 3, 0, 2, 3, 1, 0, 3, 2, 1);
    }

    private void inTruth() {
        t.sentence("IN TRUTH: a TALK; ROUNDS 0 to r less 1 (EVENINGS is 1 more).");
        for (int r = 1; r <= 3; r++) {
            InTwosInSpanish asks = wrongOf(Worlds.persons(50, 30, 10), 1);
            InTwosInSpanish x = wrongOf(Worlds.persons(50, 30, 10), 1);
            x.evening(r);
            t.due("EVENINGS behind " + r + " ROUNDS", x.status(3), 1);
            t.due("pairs behind " + r + " ROUNDS", x.met(), r);
            t.due("WRONG behind " + r + " ROUNDS", x.spread(0), asks.spread(r));
            for (int p = 0; p < 3; p++) {
                t.due("WORDS behind " + r + " ROUNDS", x.personOf(p, 2), asks.ahead(p, r));
            }
        }
        InTwosInSpanish y = alike(2);
        y.talk(0, 1);
        t.due("a TALK is no EVENING", y.status(3), 0);
        t.range(() -> Worlds.persons(50, 30, 10), "evening", 0, 1, 3, 0);
    }

    private static int[] draws(int seed, int n) {
        int[] drawn = new int[n];
        int s = seed;
        for (int i = 0; i < n; i++) {
            s = s * 1103515245 + 12345;
            drawn[i] = (int) ((s & 0xFFFFFFFFL) / 65536 % 12);
        }
        return drawn;
    }

    private void draws() {
        t.sentence("EVENINGS by draws, n: each: one by one, a DRAW below 12: who has one below ABSENT isn't there; who is "
                + "there, by numbers, talk by twos, the first with the second and so on (an odd one sits out); EVENINGS is "
                + "1 more; how much was LEARNED in all (before WORDS are held to 99).");
        for (int absent = 0; absent <= 12; absent++) {
            for (int seed = 1; seed <= 3; seed++) {
                drawnOnce(absent, seed * 77777777);
            }
        }
        InTwosInSpanish x = Worlds.persons(99, 99, 99);
        x.tell(1, 0);
        t.due("before WORDS are held", x.drawn(40), 40 * 16);
        t.due("99 at most", x.status(4), 297);
        t.due("an odd one sits out", x.personOf(2, 4), 0);
        t.due("EVENINGS", x.status(3), 40);
        InTwosInSpanish y = alike(8);
        y.tell(1, 12);
        t.due("nobody is there", y.drawn(40), 0);
        t.due("nobody has MET", y.met(), 0);

        t.sentence("A DRAW below n: SEED (1 at first) becomes SEED times 1103515245, and 12345 (an int, wrapping); its "
                + "upper 16 bits, no sign, modulo n.");
        t.due("SEED at first", new InTwosInSpanish().status(7), 1);
        InTwosInSpanish z = alike(1);
        z.drawn(1);
        t.due("SEED behind a DRAW", z.status(7), 1103527590);
        z.drawn(1);
        t.due("SEED behind another one, wrapping", z.status(7), -1770082073);
        upperBits();
    }

    /** Two talk just if both DRAWS are not below ABSENT. */
    private void upperBits() {
        for (int seed : new int[] {0, 1, -1, 7, 11, Integer.MIN_VALUE, Integer.MAX_VALUE, 123456789, -123456789}) {
            int[] drawn = draws(seed, 2);
            for (int absent = 0; absent <= 12; absent++) {
                InTwosInSpanish x = alike(2);
                x.tell(1, absent);
                x.seed(seed);
                x.drawn(1);
                t.due("SEED " + seed + ", ABSENT " + absent, x.met(), drawn[0] >= absent && drawn[1] >= absent ? 1 : 0);
            }
        }
    }

    private void drawnOnce(int absent, int seed) {
        int[] drawn = draws(seed, 8);
        int[] met = new int[8];
        int waiting = -1;
        int pairs = 0;
        for (int p = 0; p < 8; p++) {
            if (drawn[p] >= absent && waiting < 0) {
                waiting = p;
            } else if (drawn[p] >= absent) {
                met[p] = 1 << waiting;
                met[waiting] = 1 << p;
                waiting = -1;
                pairs++;
            }
        }
        InTwosInSpanish x = Worlds.eight();
        x.tell(1, absent);
        x.seed(seed);
        t.due("ABSENT " + absent + ", SEED " + seed, x.drawn(1), 12 * pairs);
        t.due("EVENINGS", x.status(3), 1);
        for (int p = 0; p < 8; p++) {
            t.due("ABSENT " + absent + ", SEED " + seed + ": MET of " + p, x.personOf(p, 4), met[p]);
        }
    }

    // ---- SHELVES ----

    private void shelves() {
        t.sentence("SHELVES 0 to 7 hold NOTHING (at first), a ROW, or one of the PEOPLE.");
        InTwosInSpanish x = Worlds.eight();
        for (int s = 0; s < 8; s++) {
            t.due("NOTHING at first", x.holds(s), NONE);
            x.row(s, s % 5, 1);
            t.due("a ROW", x.holds(s), s % 5);
            x.show(s, 7 - s);
            t.due("one of the PEOPLE", x.holds(s), 17 - s);
        }
        t.due("all SHELVES", x.status(8), 8);
        t.range(Worlds::nobody, "row", 0, 0, 7, 0, 0, 0);
        t.range(Worlds::nobody, "show", 0, 0, 7, 0, NONE);
        t.due("SHELF -1", x.holds(-1), NONE);
        t.due("SHELF 8", x.holds(8), NONE);
    }

    private void rows() {
        t.sentence("A ROW has a SORT (0 bytes, 1 shorts, 2 ints, 3 longs, 4 booleans) and 0 to 40 elements (0, or not so, "
                + "at first);");
        t.range(Worlds::nobody, "row", 1, 0, 4, 0, 0, 0);
        t.range(Worlds::nobody, "row", 2, 0, 40, 0, 0, 0);
        for (int sort = 0; sort < 5; sort++) {
            InTwosInSpanish x = new InTwosInSpanish();
            x.row(0, sort, 40);
            for (int i = 0; i < 40; i++) {
                t.due("at first", x.element(0, i), 0);
                x.set(0, i, -1);
            }
            x.row(0, sort, 40);
            t.due("at first, where another ROW was", x.element(0, 0) + x.element(0, 39), 0);
            t.due("place 39 of 40", x.set(0, 39, 1), 1);
            t.due("place 40 of 40", x.set(0, 40, 1), BAD);
            x.row(0, sort, 0);
            t.due("place 0 of none", x.set(0, 0, 1), BAD);
        }

        t.sentence("what is put in keeps its lowest bits (of booleans: whether it is not 0); told they are numbers (1, 0).");
        put(0, 127, 127);
        put(0, 128, -128);
        put(0, 255, -1);
        put(0, 256, 0);
        put(0, -128, -128);
        put(0, -129, 127);
        put(1, 32767, 32767);
        put(1, 32768, -32768);
        put(1, 65535, -1);
        put(1, 65536, 0);
        put(1, -32769, 32767);
        put(2, Integer.MAX_VALUE, Integer.MAX_VALUE);
        put(2, 1L << 31, Integer.MIN_VALUE);
        put(2, 0xFFFFFFFFL, -1);
        put(2, 1L << 32, 0);
        put(2, Long.MAX_VALUE, -1);
        put(3, Long.MAX_VALUE, Long.MAX_VALUE);
        put(3, Long.MIN_VALUE, Long.MIN_VALUE);
        put(4, 0, 0);
        put(4, 1, 1);
        put(4, 2, 1);
        put(4, -1, 1);
        put(4, 256, 1);
        put(4, 1L << 32, 1);
        put(4, Long.MIN_VALUE, 1);
    }

    private void put(int sort, long v, long want) {
        InTwosInSpanish x = new InTwosInSpanish();
        x.row(7, sort, 40);
        t.due("SORT " + sort + ", " + v, x.set(7, 39, v), 1);
        t.due("SORT " + sort + ", " + v, x.element(7, 39), want);
        t.due("SORT " + sort + ", the next", x.element(7, 38), 0);
    }

    // ---- REFUSALS ----

    private void refusals() {
        t.sentence("REFUSALS (the call answers the number; nothing changes but how many there were; the first that fits as "
                + "each line has them):");
        t.refused(Worlds::shelved, BAD, "set", 8, 99, 0);
        t.refused(Worlds::shelved, OTHER, "set", 2, 99, 0);
        t.refused(Worlds::shelved, NOTHING, "set", 3, 99, 0);
        t.refused(Worlds::shelved, BAD, "learned", 2, 21);
        t.refused(Worlds::eight, BAD, "person", 0, 0, 100);
        t.refused(Worlds::nobody, BAD, "wrong", 0, 1);
        InTwosInSpanish x = Worlds.shelved();
        for (int n = 1; n <= 3; n++) {
            x.row(8, 0, 0);
            t.due("how many there were", x.status(12), n);
        }

        t.sentence("-2 BAD a number that may not be, nothing of that number.");
        t.refused(Worlds::shelved, BAD, "words", 0, 100);
        t.refused(Worlds::shelved, BAD, "words", 6, 0);

        t.sentence("-3 OTHER: a SHELF that holds another thing than is wanted.");
        t.refused(Worlds::shelved, OTHER, "set", 4, 0, 0);
        t.refused(Worlds::shelved, OTHER, "says", 0, 0);

        t.sentence("-4 NOTHING: a SHELF that holds NOTHING.");
        t.refused(Worlds::shelved, NOTHING, "set", 3, 0, 0);
        t.refused(Worlds::shelved, NOTHING, "says", 3, 0);

        t.sentence("-5 STUCK: it can't be as things stand.");
        t.refused(Worlds::shelved, STUCK, "wrong", 5, 1);
        t.refused(Worlds::six, STUCK, "back");

        t.sentence("-6 FULL.");
        t.refused(Worlds::eight, FULL, "person", 0, 0, 0);
        t.refused(EdgesOfTermsTest::fullTape, FULL, "feed", 0);
    }

    private static InTwosInSpanish fullTape() {
        InTwosInSpanish x = new InTwosInSpanish();
        Worlds.feed(x, " ".repeat(241) + "minutes 7");
        return x;
    }
}
