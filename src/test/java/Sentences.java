import java.util.ArrayList;
import java.util.List;

/** What the tests of the document's sentences share: each says a sentence and makes the calls that show it. */
abstract class Sentences {
    static final int MIN = Integer.MIN_VALUE;
    static final int MAX = Integer.MAX_VALUE;
    static final int NONE = DeckBench.NONE;

    /** All 21 lines of 7 nodes, all 15 of 6. */
    static final int EVERY_LINE_OF_7 = (1 << 21) - 1;
    static final int EVERY_LINE_OF_6 = (1 << 15) - 1;

    /**
     * Slot 0 a path of 4 nodes, 1 all lines of 7, 2 a triangle, 3 one node, 4 empty, 5 a ring of 5; deck 0 that of
     * slot 0, deck 1 of 2, deck 2 none.
     */
    private static final String BUSY_TEXT = "net 0 4 01 12 23;" + Tape.net(1, 7, EVERY_LINE_OF_7)
            + "net 2 3 01 02 12;net 3 1;net 5 5 01 12 23 34 04;deck 0 4 card card card card;";

    interface Call {
        int on(DeckBench bench);
    }

    interface CallWith {
        int on(DeckBench bench, int value);
    }

    private int wrong = 0;
    private String sentence = "";

    /** The words of the document that the calls from here on show. */
    final void says(String words) {
        sentence = words;
    }

    final void due(String call, int got, int want) {
        if (got != want) {
            wrong++;
            System.out.println("\"" + sentence + "\": " + call + " answered " + got + ", due is " + want);
        }
    }

    /** A new object that was told a text. */
    final DeckBench with(String text) {
        DeckBench bench = new DeckBench();
        int lines = text.length() - text.replace(";", "").length();
        due("tell '" + text + "'", Tape.tell(bench, text), lines);
        return bench;
    }

    /** A new object with a net in slot 0. */
    final DeckBench withNet(int nodes, int code) {
        return with(Tape.net(0, nodes, code));
    }

    /** A new object with a deck of these cards, as deck 0. */
    final DeckBench withDeck(int... cards) {
        return with(Tape.deck(0, cards));
    }

    /** Slots and decks of all kinds, a text refused, 13 acts of which 10 can be undone. */
    static DeckBench busyWithoutTape() {
        DeckBench bench = new DeckBench();
        Tape.tell(bench, BUSY_TEXT);
        Tape.tell(bench, "net 0 9;");
        bench.join(0, 0, 3);
        bench.join(0, 3, 0);
        bench.grow(3, 1);
        bench.deal(3, 1);
        bench.drop(3, 1);
        bench.turn(2, 4);
        bench.put(3, 4);
        bench.drop(4, 0);
        bench.replace(0, 3, 2);
        bench.deal(0, 0);
        bench.solve(1, 4);
        bench.drop(4, 0);
        bench.drop(4, 0);
        return bench;
    }

    /** The same with twenty bytes on the tape. */
    static DeckBench busy() {
        DeckBench bench = busyWithoutTape();
        Tape.feed(bench, "net 4 2 01;deck 2 2 ");
        return bench;
    }

    private static void readNetsAndDecks(DeckBench bench, List<Integer> seen) {
        for (int slot = 0; slot < 6; slot++) {
            seen.add(bench.net(slot, 0));
            seen.add(bench.net(slot, 2));
        }
        for (int deck = 0; deck < 3; deck++) {
            int cards = bench.card(deck, NONE);
            seen.add(cards);
            for (int card = 0; card < cards; card++) {
                seen.add(bench.card(deck, card));
            }
        }
    }

    /** Slots, decks and what each act that can be undone gives back; the acts are undone by it. */
    static List<Integer> readActs(DeckBench bench) {
        List<Integer> seen = new ArrayList<>();
        seen.add(bench.count(0));
        readNetsAndDecks(bench, seen);
        for (int i = bench.count(0); i >= 0; i--) {
            seen.add(bench.undo());
            readNetsAndDecks(bench, seen);
        }
        return seen;
    }

    /** The tape and the latest fault; the tape is told by it. */
    static List<Integer> readTape(DeckBench bench) {
        List<Integer> seen = new ArrayList<>();
        seen.add(bench.fault(0));
        seen.add(bench.fault(1));
        seen.add(bench.count(1));
        seen.add(bench.tell(bench.count(1)));
        seen.add(bench.fault(0));
        seen.add(bench.fault(1));
        readNetsAndDecks(bench, seen);
        return seen;
    }

    final void sameActs(String call, DeckBench got, DeckBench want) {
        List<Integer> seen = readActs(got);
        List<Integer> due = readActs(want);
        if (!seen.equals(due)) {
            wrong++;
            System.out.println("\"" + sentence + "\": " + call + " left " + seen + ", due is " + due);
        }
    }

    final void sameTape(String call, DeckBench got, DeckBench want) {
        List<Integer> seen = readTape(got);
        List<Integer> due = readTape(want);
        if (!seen.equals(due)) {
            wrong++;
            System.out.println("\"" + sentence + "\": " + call + " left " + seen + ", due is " + due);
        }
    }

    /** A call on a busy object is refused by a code and changes nothing. */
    final void refused(String name, int code, Call call) {
        DeckBench bench = busy();
        due(name, call.on(bench), code);
        sameActs(name, bench, busy());
        bench = busy();
        call.on(bench);
        sameTape(name, bench, busy());
    }

    /** A call on a busy object is answered, by NONE at the least. */
    final void taken(String name, Call call) {
        int answer = call.on(busy());
        if (answer < NONE) {
            wrong++;
            System.out.println("\"" + sentence + "\": " + name + " was refused by " + answer);
        }
    }

    /** The least and the greatest value are taken; the next ones beyond and the farthest are refused, by a code. */
    final void bounds(String name, int least, int greatest, int code, CallWith call) {
        taken(name + " with " + least, b -> call.on(b, least));
        taken(name + " with " + greatest, b -> call.on(b, greatest));
        int[] beyond = {least - 1, greatest + 1, MIN, MAX};
        for (int value : beyond) {
            refused(name + " with " + value, code, b -> call.on(b, value));
        }
    }

    abstract void all();

    final void run() {
        all();
        System.out.println(wrong == 0 ? "all sentences hold" : wrong + " answers are not as due");
        if (wrong != 0) {
            System.exit(1);
        }
    }
}
