/** The text's grammar and faults: rows by hand, then many texts of tokens thrown together, read by DeckModel too. */
public final class TextTest {
    private static final String[] TOKENS = {"net ", "deck ", "card ", "card", "net", "deck", " 0", " 1", " 2", " 3", " 8",
        " 01", " 10", " 12", " 23", " 22", " 012", " 9", ";", " ; ", ";;", " ", "x", "cardx", "Net", "\t", "\u00e9", "1", "0"};
    private static final String[] GOOD = {"net 0 3 01 12;", "deck 0 3 card 01 card card 10;", "net 5 7 06 65 43;",
        "deck 2 2 card card;", "deck1 4card card 01card 01 12card 02 12 01;", "net 3 0 ; ", "net2 1;"};

    private int wrong = 0;
    private long seed = 20261117;

    private int pick(int below) {
        seed = seed * 6364136223846793005L + 1442695040888963407L;
        return (int) ((seed >>> 33) % below);
    }

    private void due(String text, String what, int got, int want) {
        if (got != want) {
            wrong++;
            System.out.println("'" + text + "': " + what + " answered " + got + ", due is " + want);
        }
    }

    private void faultIs(String text, int fault, int place) {
        DeckBench bench = new DeckBench();
        bench.grow(1, 0);
        due(text, "tell()", Tape.tell(bench, text), -30 - fault);
        due(text, "fault(0)", bench.fault(0), fault);
        due(text, "fault(1)", bench.fault(1), place);
        due(text, "net(1, 0), which stays", bench.net(1, 0), 1);
        due(text, "count(0), which stays", bench.count(0), 1);
        due(text, "count(1)", bench.count(1), 0);
    }

    private void linesAre(String text, int lines) {
        DeckBench bench = new DeckBench();
        bench.grow(1, 0);
        due(text, "tell()", Tape.tell(bench, text), lines);
        due(text, "fault(0)", bench.fault(0), 0);
        due(text, "fault(1)", bench.fault(1), -1);
        due(text, "count(0)", bench.count(0), 0);
    }

    private void byHand() {
        linesAre("", 0);
        linesAre("   ", 0);
        linesAre("net 0 0;", 1);
        linesAre("net0 3 01 12;", 1);
        linesAre("  net  0  3  01  ;  net 0 2 ; ", 2);
        linesAre("deck0 3card01card12card;".replace("12", "10"), 1);
        linesAre("deck 2 7 card card card card card card card 05;", 1);
        linesAre("net 5 7 06 60;".replace(" 60", " 65"), 1);
        faultIs(";", 1, 0);
        faultIs("x", 1, 0);
        faultIs("7", 1, 0);
        faultIs("nets 0 0;", 1, 0);
        faultIs("net", 1, 3);
        faultIs("net  ", 1, 5);
        faultIs("net x", 1, 4);
        faultIs("net 0", 1, 5);
        faultIs("net 0;", 1, 5);
        faultIs("net 0 3", 1, 7);
        faultIs("net 0 3 01", 1, 10);
        faultIs("net 0 3 card;", 1, 8);
        faultIs("net 0 3 01 net", 1, 11);
        faultIs("net 0 3; card;", 1, 9);
        faultIs("Net 0 3;", 1, 0);
        faultIs("net\t0 3;", 1, 3);
        faultIs("net 0 3;\n", 1, 8);
        faultIs("net 6 3;", 2, 4);
        faultIs("net 00 3;", 2, 4);
        faultIs("net 03 01;", 2, 4);
        faultIs("net 0 8;", 2, 6);
        faultIs("net 0 10;", 2, 6);
        faultIs("net 0 3 0;", 2, 8);
        faultIs("net 0 3 012;", 2, 8);
        faultIs("net 0 3 00000000000000000000;", 2, 8);
        faultIs("deck 3 3 card card card;", 2, 5);
        faultIs("deck 0 1 card;", 2, 7);
        faultIs("deck 0 8 card;", 2, 7);
        faultIs("deck 0 3 01;", 1, 9);
        faultIs("deck 0 3;", 1, 8);
        faultIs("deck 0 3", 1, 8);
        faultIs("deck 0 3 cardcard card;", 1, 9);
        faultIs("deck 0 3 card", 1, 13);
        faultIs("deck 0 3 card net 0 0;", 1, 14);
        faultIs("deck 0 3 card 0;", 2, 14);
        faultIs("net 0 0 01;", 3, 8);
        faultIs("net 0 3 03;", 3, 8);
        faultIs("net 0 3 11;", 3, 8);
        faultIs("net 0 3 01 12 10;", 3, 14);
        faultIs("deck 0 3 card 02 card card;", 3, 14);
        faultIs("deck 0 2 card 01 card;", 3, 14);
        faultIs("deck 0 3 card ;", 4, 14);
        faultIs("deck 0 3 card card 01;", 4, 21);
        faultIs("deck 0 2 card card card;", 4, 19);
        faultIs("deck 0 2 card card card 99;", 4, 19);
        faultIs("deck 0 2 card card x;", 1, 19);
    }

    private String thrown() {
        StringBuilder text = new StringBuilder();
        int many = pick(14);
        for (int i = 0; i < many; i++) {
            text.append(pick(3) == 0 ? GOOD[pick(GOOD.length)] : TOKENS[pick(TOKENS.length)]);
        }
        return text.toString();
    }

    /** A good text with one token put in or in place of some signs: most faults lie far inside. */
    private String spoilt() {
        StringBuilder text = new StringBuilder();
        for (int i = pick(4); i >= 0; i--) {
            text.append(GOOD[pick(GOOD.length)]);
        }
        int at = pick(text.length());
        int end = Math.min(text.length(), at + pick(3));
        return text.replace(at, end, TOKENS[pick(TOKENS.length)]).toString();
    }

    private void byModel() {
        for (int i = 0; i < 60000; i++) {
            String text = i % 2 == 0 ? thrown() : spoilt();
            DeckBench bench = new DeckBench();
            DeckModel model = new DeckModel();
            Tape.feed(bench, text);
            Tape.feed(model, text);
            due(text, "tell()", bench.tell(text.length()), model.tell(text.length()));
            due(text, "fault(0)", bench.fault(0), model.fault(0));
            due(text, "fault(1)", bench.fault(1), model.fault(1));
            for (int slot = 0; slot < 6; slot++) {
                due(text, "net(" + slot + ", 0)", bench.net(slot, 0), model.net(slot, 0));
                due(text, "net(" + slot + ", 2)", bench.net(slot, 2), model.net(slot, 2));
            }
            for (int deck = 0; deck < 3; deck++) {
                for (int card = -1; card < 7; card++) {
                    due(text, "card(" + deck + ", " + card + ")", bench.card(deck, card), model.card(deck, card));
                }
            }
        }
    }

    public static void main(String[] args) {
        TextTest test = new TextTest();
        test.byHand();
        test.byModel();
        System.out.println(test.wrong == 0 ? "all texts are read as due" : test.wrong + " answers are not as due");
        if (test.wrong != 0) {
            System.exit(1);
        }
    }
}
