/** The document's sentences on the text, its faults and the tape (Terms, promises 1 to 4), each by itself. */
public final class TextSentenceTest extends Sentences {
    /** Bytes that stand nowhere in a text, some beside the ones that do. */
    private static final String[] OTHERS = {"\u0000", "\t", "\n", "\u001f", "!", "/", ":", "<", "A", "Z", "`", "{", "-", ",",
        "\u007f", "\u0080", "\u00ff"};

    private void taken(String text, int lines) {
        DeckBench bench = busyWithoutTape();
        due("tell '" + text + "'", Tape.tell(bench, text), lines);
        due("fault(0) of '" + text + "'", bench.fault(0), 0);
        due("fault(1) of '" + text + "'", bench.fault(1), NONE);
        due("count(1) behind '" + text + "'", bench.count(1), 0);
        due("undo() behind '" + text + "'", bench.undo(), -5);
    }

    private void faulty(String text, int fault, int place) {
        DeckBench bench = busyWithoutTape();
        due("tell '" + text + "'", Tape.tell(bench, text), -30 - fault);
        due("fault(0) of '" + text + "'", bench.fault(0), fault);
        due("fault(1) of '" + text + "'", bench.fault(1), place);
        due("count(1) behind '" + text + "'", bench.count(1), 0);
        sameActs("tell '" + text + "'", bench, busyWithoutTape());
    }

    /** None of the words and bytes can stand behind the beginning. */
    private void cannotFollow(String beginning, String... words) {
        for (String word : words) {
            faulty(beginning + word + " ;", 1, beginning.length());
        }
        for (String other : OTHERS) {
            faulty(beginning + other + ";", 1, beginning.length());
        }
    }

    private static String times(int many, String text) {
        return text.repeat(many);
    }

    private void newObject() {
        says("NETS of no NODES, no DECKS.");
        DeckBench x = new DeckBench();
        for (int slot = 0; slot < 6; slot++) {
            due("net(" + slot + ", 0)", x.net(slot, 0), 0);
            due("net(" + slot + ", 1)", x.net(slot, 1), 0);
        }
        for (int deck = 0; deck < 3; deck++) {
            due("card(" + deck + ", NONE)", x.card(deck, NONE), NONE);
            due("reason(" + deck + ")", x.reason(deck), -2);
        }
        due("count(0)", x.count(0), 0);
        due("count(1)", x.count(1), 0);
        due("count(2)", x.count(2), 0);
        due("count(3)", x.count(3), 0);
        due("undo()", x.undo(), -5);

        says("SLOTS 0 .. 5 have a NET each (n 0 at first), DECKS 0 .. 2 a DECK each (none at first).");
        due("net(5, 0)", x.net(5, 0), 0);
        due("net(6, 0)", x.net(6, 0), -2);
        due("net(-1, 0)", x.net(-1, 0), -2);
        due("card(2, NONE)", x.card(2, NONE), NONE);
        due("card(3, NONE)", x.card(3, NONE), -2);
        due("card(-1, NONE)", x.card(-1, NONE), -2);
    }

    private void feed() {
        says("Twenty bytes come behind those on THE TAPE, the highest of each int first: how many it has.");
        DeckBench x = new DeckBench();
        due("feed", x.feed(0x6e657420, 0x35203720, 0x30312036, 0x353b6e65, 0x74203420), 20);
        due("feed", x.feed(0x323b2020, 0x20202020, 0x20202020, 0x20202020, 0x202020ff), 40);
        due("count(1)", x.count(1), 40);
        due("tell(39)", x.tell(39), 2);
        due("net(5, 2)", x.net(5, 2), 1 + (1 << 20));
        due("net(4, 0)", x.net(4, 0), 2);
        due("feed on an empty tape again", x.feed(-1, -1, -1, -1, -1), 20);
        due("tell(20)", x.tell(20), -31);
        due("fault(1)", x.fault(1), 0);
        due("feed of the least ints", x.feed(MIN, MIN, MIN, MIN, MIN), 20);
        due("tell(0)", x.tell(0), 0);

        says("-4: it would have more than 600.");
        x = busyWithoutTape();
        for (int bytes = 20; bytes <= 600; bytes += 20) {
            due("feed", x.feed(0x20202020, 0x20202020, 0x20202020, 0x20202020, 0x20202020), bytes);
        }
        due("feed of 601 to 620", x.feed(0x78787878, 0x78787878, 0x78787878, 0x78787878, 0x78787878), -4);
        due("feed again", x.feed(0, 0, 0, 0, 0), -4);
        due("count(1)", x.count(1), 600);
        due("fault(0) stays", x.fault(0), 2);
        due("count(0) stays", x.count(0), 10);
        due("tell(601)", x.tell(601), -3);
        due("tell(600): blanks alone", x.tell(600), 0);
        due("feed on an empty tape", x.feed(0, 0, 0, 0, 0), 20);
        DeckBench full = busyWithoutTape();
        Tape.feed(full, times(600, " "));
        full.feed(0, 0, 0, 0, 0);
        sameActs("feed of 601 to 620", full, busyWithoutTape());
    }

    private void tell() {
        says("The first n bytes of THE TAPE (which is empty then) are THE TEXT: how many LINES (of the text).");
        DeckBench x = new DeckBench();
        Tape.feed(x, "net 0 1;net 1 2;net 2 3;");
        due("tell(16), of 40 bytes", x.tell(16), 2);
        due("count(1): all bytes are gone", x.count(1), 0);
        due("net(1, 0)", x.net(1, 0), 2);
        due("net(2, 0): not in the text", x.net(2, 0), 0);
        Tape.feed(x, "net 0 1;xxxxxxxxxxxx");
        due("tell(7): the text ends ahead of the ;", x.tell(7), -31);
        due("fault(1)", x.fault(1), 7);
        due("count(1): all bytes are gone", x.count(1), 0);
        Tape.feed(x, "net 3 1;xxxxxxxxxxxx");
        due("tell(8)", x.tell(8), 1);
        Tape.feed(x, "net 3 1;xxxxxxxxxxxx");
        due("tell(9)", x.tell(9), -31);
        due("fault(1)", x.fault(1), 8);
        Tape.feed(x, "net 3 1;net 3 2;net 3 3;");
        due("tell(24): one slot three times", x.tell(24), 3);

        says("-3: n is below 0, above what there is (THE TAPE stays); a FAULT.");
        refused("tell(-1)", -3, b -> b.tell(-1));
        refused("tell(MIN)", -3, b -> b.tell(MIN));
        refused("tell(21) of 20", -3, b -> b.tell(21));
        refused("tell(MAX) of 20", -3, b -> b.tell(MAX));
        x = new DeckBench();
        due("tell(1) of no byte", x.tell(1), -3);
        due("tell(-1) of no byte", x.tell(-1), -3);
        due("tell(0) of no byte", x.tell(0), 0);
        Tape.feed(x, "net 0 8;            ");
        due("tell(21) of a text with a fault", x.tell(21), -3);
        due("fault(0): that tell() emptied nothing", x.fault(0), 0);
        due("count(1)", x.count(1), 20);
        due("tell(20): just what there is", x.tell(20), -32);
        Tape.feed(x, "net 0 7;            ");
        due("tell(20)", x.tell(20), 1);
        due("net(0, 0)", x.net(0, 0), 7);
    }

    private void fault() {
        says("Of the latest tell() that emptied THE TAPE (be it of no byte), what 0: its FAULT (0), 1: its place (NONE).");
        DeckBench x = new DeckBench();
        due("tell", Tape.tell(x, "x"), -31);
        due("fault(0)", x.fault(0), 1);
        due("fault(1): the first byte", x.fault(1), 0);
        due("tell(1) of no byte, refused", x.tell(1), -3);
        due("fault(0) stays", x.fault(0), 1);
        due("fault(1) stays", x.fault(1), 0);
        due("tell(0)", x.tell(0), 0);
        due("fault(0)", x.fault(0), 0);
        due("fault(1)", x.fault(1), NONE);
        due("tell of 600 bytes", Tape.tell(x, times(597, " ") + "net"), -31);
        due("fault(1): the end of a full tape", x.fault(1), 600);
        due("tell of 600 bytes", Tape.tell(x, times(599, " ") + ";"), -31);
        due("fault(1): the last byte", x.fault(1), 599);
        due("tell", Tape.tell(x, "deck 0 2 card;"), -34);
        due("fault(0): the greatest", x.fault(0), 4);
        due("fault(1)", x.fault(1), 13);
        due("a good text", Tape.tell(x, "net 0 0;"), 1);
        due("fault(0)", x.fault(0), 0);
        due("fault(1)", x.fault(1), NONE);

        says("NONE for others, and for place ahead of any.");
        int[] others = {-1, 2, 3, MIN, MAX};
        for (int what : others) {
            due("fault(" + what + ") with a fault", busy().fault(what), NONE);
            due("fault(" + what + ") ahead of any", new DeckBench().fault(what), NONE);
        }
        due("fault(0) ahead of any", new DeckBench().fault(0), 0);
        due("fault(1) ahead of any", new DeckBench().fault(1), NONE);
    }

    private void lines() {
        says("THE TEXT: { LINE ; }.");
        taken("", 0);
        taken(" ", 0);
        taken("net 0 0;", 1);
        taken(times(75, "net 0 0;"), 75);
        taken(times(85, "net0 0;"), 85);
        faulty(times(74, "net 0 0;") + "net 0 8;", 2, 598);
        faulty("net 0 0;;", 1, 8);

        says("LINE: net N N { PAIR } | deck N N CARD { CARD }.");
        cannotFollow("", "card", "word", ";", "7", "01");
        cannotFollow("net ", "net", "deck", "card", "word", ";");
        cannotFollow("net 0 ", "net", "deck", "card", "word", ";");
        cannotFollow("net 0 2 ", "net", "deck", "card", "word");
        cannotFollow("net 0 2 01 ", "net", "deck", "card", "word");
        cannotFollow("net 0 2;", "card", "word", ";", "7", "01");
        cannotFollow("deck ", "net", "deck", "card", "word", ";");
        cannotFollow("deck 0 ", "net", "deck", "card", "word", ";");
        cannotFollow("deck 0 2 ", "net", "deck", "word", ";", "7", "01");
        cannotFollow("deck 0 3 card ", "net", "deck", "word");
        cannotFollow("deck 0 3 card 01 ", "net", "deck", "word");
        cannotFollow("deck 0 2 card card ", "net", "deck", "word");
        cannotFollow("deck 0 2 card card;", "card", "word", ";", "7", "01");
    }

    private void numbersOfLines() {
        says("net: a SLOT, n (0 to 7).");
        for (int value = 0; value <= 7; value++) {
            taken("net 5 " + value + ";", 1);
            due("n", with("net 5 " + value + ";").net(5, 0), value);
        }
        for (int slot = 0; slot <= 5; slot++) {
            due("slot " + slot, with("net " + slot + " 7;").net(slot, 0), 7);
        }
        for (int value = 6; value <= 9; value++) {
            faulty("net " + value + " 1;", 2, 4);
        }
        faulty("net 5 8;", 2, 6);
        faulty("net 5 9;", 2, 6);

        says("deck: a DECK, n (2 to 7), just n CARDS.");
        for (int n = 2; n <= 7; n++) {
            String cards = times(n - 1, " card");
            taken("deck 2 " + n + cards + " card;", 1);
            due("n", with("deck 2 " + n + cards + " card;").card(2, NONE), n);
            faulty("deck 2 " + n + cards + ";", 4, 8 + cards.length());
            faulty("deck 2 " + n + cards + " card card;", 4, 8 + cards.length() + 6);
            faulty("deck 2 " + n + " card;", 4, 13);
        }
        for (int deck = 0; deck <= 2; deck++) {
            due("deck " + deck, with("deck " + deck + " 2 card card;").card(deck, NONE), 2);
        }
        for (int value = 3; value <= 9; value++) {
            faulty("deck " + value + " 2 card card;", 2, 5);
        }
        int[] wrongSizes = {0, 1, 8, 9};
        for (int n : wrongSizes) {
            faulty("deck 0 " + n + times(n, " card") + ";", 2, 7);
        }
    }

    private void cards() {
        says("CARD: card { PAIR }.");
        due("cards without lines", with("deck 0 7" + times(7, " card") + ";").card(0, 6), 0);
        DeckBench x = with(Tape.deck(0, new int[] {EVERY_LINE_OF_6, EVERY_LINE_OF_6, EVERY_LINE_OF_6, EVERY_LINE_OF_6,
            EVERY_LINE_OF_6, EVERY_LINE_OF_6, EVERY_LINE_OF_6}));
        due("cards with all lines", x.card(0, 0), EVERY_LINE_OF_6);

        says("told by their FORMS, the least FORM first (CARD 0, 1 ..)");
        x = with("deck 0 4 card 02 card card 12 card 01;");
        due("card(0, 1): told first, of the code 2", x.card(0, 1), 1);
        due("card(0, 3): of the code 4", x.card(0, 3), 1);
        x = with("deck 0 4 card 02 12 01 card 20 card card 12 02;");
        due("card(0, 0)", x.card(0, 0), 0);
        due("card(0, 1): of the code 2", x.card(0, 1), 1);
        due("card(0, 2): of the code 6", x.card(0, 2), 3);
        due("card(0, 3)", x.card(0, 3), 7);
    }

    private void pairs() {
        says("PAIR: a LINE: two digits that stand together, unlike NODES (of a CARD: below n - 1), each LINE once.");
        for (int n = 2; n <= 7; n++) {
            int last = n - 1;
            due("net 0" + last, with("net 0 " + n + " 0" + last + ";").net(0, 1), 1);
            due("net " + last + "0", with("net 0 " + n + " " + last + "0;").net(0, 1), 1);
            faulty("net 0 " + n + " 0" + n + ";", 3, 8);
            faulty("net 0 " + n + " " + n + "0;", 3, 8);
            faulty("net 0 " + n + " 01 10;", 3, 11);
            faulty("net 0 " + n + " 01 01;", 3, 11);
            faulty("net 0 " + n + " " + last + last + ";", 3, 8);
            faulty("net 0 " + n + " 00;", 3, 8);
        }
        faulty("net 0 0 00;", 3, 8);
        faulty("net 0 0 01;", 3, 8);
        faulty("net 0 1 00;", 3, 8);
        faulty("net 0 1 01;", 3, 8);
        faulty("net 0 7 08;", 3, 8);
        faulty("net 0 7 99;", 3, 8);
        for (int n = 3; n <= 7; n++) {
            String rest = times(n - 1, " card");
            int last = n - 2;
            taken("deck 0 " + n + " card 0" + last + rest + ";", 1);
            taken("deck 0 " + n + " card " + last + "0" + rest + ";", 1);
            faulty("deck 0 " + n + " card 0" + (last + 1) + rest + ";", 3, 14);
            faulty("deck 0 " + n + " card " + (last + 1) + "0" + rest + ";", 3, 14);
            faulty("deck 0 " + n + " card 01 10" + rest + ";", 3, 17);
            faulty("deck 0 " + n + " card " + last + last + rest + ";", 3, 14);
            taken("deck 0 " + n + " card 01 card 01" + times(n - 2, " card") + ";", 1);
        }
        faulty("deck 0 2 card 01 card;", 3, 14);
        faulty("deck 0 2 card 00 card;", 3, 14);
        due("all lines", with(Tape.net(0, 7, EVERY_LINE_OF_7)).net(0, 1), 21);
        faulty(Tape.net(0, 7, EVERY_LINE_OF_7).replace(";", " 65;"), 3, 8 + 21 * 3);
        taken("net 0 7 01; net 0 7 01; net 1 7 01;", 3);
        faulty("net 0 2 0 1;", 2, 8);
    }

    private void again() {
        says("A SLOT, a DECK may be told again (the latest counts).");
        DeckBench x = with("net 0 7 01 56;net 0 3 12;deck 1 3 card 01 card card;deck 1 2 card card;");
        due("net(0, 0)", x.net(0, 0), 3);
        due("net(0, 2)", x.net(0, 2), 4);
        due("card(1, NONE)", x.card(1, NONE), 2);
        due("card(1, 2)", x.card(1, 2), -2);
        x = with("net 0 7 01 56;net 0 0;");
        due("net(0, 0): told again as empty", x.net(0, 0), 0);
        due("count(2)", x.count(2), 0);
        due("grow behind it", x.grow(0, 0), 1);
        due("net(0, 2): nothing of the first is left", x.net(0, 2), 0);

        says("THE TEXT is in place of all that was told ahead (SLOTS not told have n 0, DECKS are none).");
        x = busyWithoutTape();
        due("tell", Tape.tell(x, "net 4 1;"), 1);
        for (int slot = 0; slot < 6; slot++) {
            due("net(" + slot + ", 0)", x.net(slot, 0), slot == 4 ? 1 : 0);
        }
        due("count(3)", x.count(3), 0);
        x = busyWithoutTape();
        due("tell", Tape.tell(x, "deck 2 2 card card;"), 1);
        due("count(2)", x.count(2), 0);
        due("count(3)", x.count(3), 1);
        due("card(2, NONE)", x.card(2, NONE), 2);
        x = busyWithoutTape();
        due("tell(0)", x.tell(0), 0);
        due("count(2)", x.count(2), 0);
        due("count(3)", x.count(3), 0);
    }

    private void signs() {
        says("Numbers (digits, as long as they go on), words (small letters, likewise), other bytes one by one");
        taken("net0 3 01;deck1 2card card;", 2);
        taken("deck 0 4card01card 02 12card10card;", 1);
        faulty("net 012;", 2, 4);
        faulty("netx 0 1;", 1, 0);
        faulty("ne t 0 1;", 1, 0);
        faulty("aznet 0 1;", 1, 0);
        String[] nearWords = {"netz", "neta", "bet", "nat", "nex", "ne", "et", "heck", "dock", "deak", "decl", "eck", "dec",
            "decks", "card"};
        for (String word : nearWords) {
            faulty(word + " 0 2;", 1, 0);
        }
        String[] nearCards = {"cardz", "carda", "hard", "cord", "cat", "carp", "ard", "car", "cards", "net", "deck"};
        for (String word : nearCards) {
            faulty("deck 0 2 card " + word + ";", 1, 14);
        }
        faulty("net 0 3 01;;", 1, 11);
        faulty("net 0 3 01,12;", 1, 10);
        faulty("net 0 3 0-1;", 2, 8);
        faulty("net -1 3;", 1, 4);
        faulty("net 0 3 " + times(500, "0") + ";", 2, 8);
        faulty(times(600, "n"), 1, 0);

        says("blanks (32) may stand between all, one at least between two words, two numbers.");
        taken("  net   0   3   01   12  ;   net   1 1 ;  ", 2);
        taken("  deck  0  3  card  01  card  card  10  ;  ", 1);
        faulty("net 03 01;", 2, 4);
        faulty("net 0 301;", 2, 6);
        faulty("net 0 3 0112;", 2, 8);
        faulty("deck 0 2 cardcard;", 1, 9);
        faulty("net 0 3\u001f01;", 1, 7);
        faulty("net 0 3!01;", 1, 7);
        faulty("net\u00a00 3;", 1, 3);
    }

    private void faults() {
        says("FAULTS, the first along THE TEXT (of one place the least)");
        faulty("net 0 3 33 net 9", 3, 8);
        faulty("net 6 8 33", 2, 4);
        faulty("net 0 8 33", 2, 6);
        faulty("deck 0 3 card 02 ;", 3, 14);
        faulty("deck 0 3 card ; net 9 9", 4, 14);
        faulty("net 0 1; net 0 1 x; net 9 9;", 1, 17);
        faulty("net 0 3 333;", 2, 8);
        faulty("net 0 3 01 011;", 2, 11);
        faulty("deck 0 3;", 1, 8);

        says("1 what can't stand there (at it; the end: how many bytes there are)");
        String[] beginnings = {"n", "net", "net ", "net 0", "net 0 ", "net 0 3", "net 0 3 ", "net 0 3 01", "net 0 3 01  ",
            "deck", "deck 0", "deck 0 3", "deck 0 3 ", "deck 0 3 card", "deck 0 3 card 01", "deck 0 2 card card",
            "deck 0 2 card card ", "net 0 3;net 0 3"};
        for (String text : beginnings) {
            faulty(text, 1, text.equals("n") ? 0 : text.length());
        }
        faulty("net 0 3;x", 1, 8);
        faulty("net 0 3; x", 1, 9);

        says("2 a number out of its bounds (N of more than one digit, a PAIR of other than two digits, too; at it)");
        faulty("net 00 3;", 2, 4);
        faulty("net 10 3;", 2, 4);
        faulty("net  6 3;", 2, 5);
        faulty("net 0 03;", 2, 6);
        faulty("net 0 10;", 2, 6);
        faulty("deck 00 2 card card;", 2, 5);
        faulty("deck 0 02 card card;", 2, 7);
        faulty("deck 0 22 card card;", 2, 7);
        faulty("net 0 3 0;", 2, 8);
        faulty("net 0 3 012;", 2, 8);
        faulty("net 0 3 0102;", 2, 8);
        faulty("net 0 3 01 2;", 2, 11);
        faulty("deck 0 3 card 1 card card;", 2, 14);
        faulty("deck 0 3 card 010 card card;", 2, 14);

        says("3 a PAIR of a NODE there is not, of a NODE with itself, told again (at it)");
        faulty("net 0 3 01  03;", 3, 12);
        faulty("net 0 3 01  22;", 3, 12);
        faulty("net 0 3 01  10;", 3, 12);
        faulty("deck 0 4 card card 01  03 card card;", 3, 23);

        says("4 a CARD too many (at its word), too few of them (at the ; behind one).");
        faulty("deck 0 2 card card  card;", 4, 20);
        faulty("deck 0 2 card card card 01;", 4, 19);
        faulty("deck 0 2 card card card", 4, 19);
        faulty("deck 0 3 card 01  ;", 4, 18);
        faulty("deck 0 3 card 01 card;", 4, 21);
        faulty("deck 0 3 card 01", 1, 16);

        says("With a FAULT all stays.");
        faulty("net 4 7 01 12;deck 2 2 card card;net 0 0;x", 1, 41);
        faulty("deck 0 2 card card;net 0 1;net 1 1 0;", 2, 35);

        says("-30 less the FAULT: a text (THE TAPE is empty then; nothing else changes).");
        faulty("x", 1, 0);
        faulty("net 6", 2, 4);
        faulty("net 5 5 55", 3, 8);
        faulty("deck 1 2 card;", 4, 13);
    }

    @Override
    void all() {
        newObject();
        feed();
        tell();
        fault();
        lines();
        numbersOfLines();
        cards();
        pairs();
        again();
        signs();
        faults();
    }

    public static void main(String[] args) {
        new TextSentenceTest().run();
    }
}
