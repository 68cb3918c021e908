import java.util.ArrayList;
import java.util.List;

/** The document's sentences on refusals as a whole, and on how long an object is used. */
public final class RefusalSentenceTest extends Sentences {
    /** A public call with its arguments in a row, and how many it takes. */
    private record Face(String name, int arguments, Rows call) {
    }

    private interface Rows {
        int on(DeckBench bench, int[] row);
    }

    private static final Face[] ACTS = {
        new Face("join", 3, (b, r) -> b.join(r[0], r[1], r[2])),
        new Face("grow", 2, (b, r) -> b.grow(r[0], r[1])),
        new Face("drop", 2, (b, r) -> b.drop(r[0], r[1])),
        new Face("turn", 2, (b, r) -> b.turn(r[0], r[1])),
        new Face("put", 2, (b, r) -> b.put(r[0], r[1])),
        new Face("deal", 2, (b, r) -> b.deal(r[0], r[1])),
        new Face("replace", 3, (b, r) -> b.replace(r[0], r[1], r[2])),
        new Face("solve", 2, (b, r) -> b.solve(r[0], r[1])),
    };

    private static final Face[] ASKS = {
        new Face("fault", 1, (b, r) -> b.fault(r[0])),
        new Face("net", 2, (b, r) -> b.net(r[0], r[1])),
        new Face("node", 3, (b, r) -> b.node(r[0], r[1], r[2])),
        new Face("alike", 2, (b, r) -> b.alike(r[0], r[1])),
        new Face("parts", 2, (b, r) -> b.parts(r[0], r[1])),
        new Face("least", 2, (b, r) -> b.least(r[0], r[1])),
        new Face("rivals", 1, (b, r) -> b.rivals(r[0])),
        new Face("lineDeck", 2, (b, r) -> b.lineDeck(r[0], r[1])),
        new Face("is", 2, (b, r) -> b.is(r[0], r[1])),
        new Face("trees", 1, (b, r) -> b.trees(r[0])),
        new Face("term", 2, (b, r) -> b.term(r[0], r[1])),
        new Face("far", 3, (b, r) -> b.far(r[0], r[1], r[2])),
        new Face("card", 2, (b, r) -> b.card(r[0], r[1])),
        new Face("common", 2, (b, r) -> b.common(r[0], r[1])),
        new Face("told", 2, (b, r) -> b.told(r[0], r[1])),
        new Face("degree", 2, (b, r) -> b.degree(r[0], r[1])),
        new Face("toldParts", 2, (b, r) -> b.toldParts(r[0], r[1])),
        new Face("toldTerm", 2, (b, r) -> b.toldTerm(r[0], r[1])),
        new Face("proved", 2, (b, r) -> b.proved(r[0], r[1])),
        new Face("reason", 1, (b, r) -> b.reason(r[0])),
        new Face("answers", 2, (b, r) -> b.answers(r[0], r[1])),
        new Face("mends", 2, (b, r) -> b.mends(r[0], r[1])),
        new Face("count", 1, (b, r) -> b.count(r[0])),
    };

    /** Slots, decks, nodes and cards that are there and that aren't, and the farthest numbers. */
    private static final int[] VALUES = {MIN, -3, -2, -1, 0, 1, 2, 3, 4, 5, 6, 7, 8, 16, 128, MAX};

    private static List<int[]> rowsOf(int arguments) {
        List<int[]> rows = new ArrayList<>();
        int many = 1;
        for (int i = 0; i < arguments; i++) {
            many *= VALUES.length;
        }
        for (int number = 0; number < many; number++) {
            int[] row = new int[arguments];
            int rest = number;
            for (int i = 0; i < arguments; i++) {
                row[i] = VALUES[rest % VALUES.length];
                rest /= VALUES.length;
            }
            rows.add(row);
        }
        return rows;
    }

    private static String told(Face face, int[] row) {
        StringBuilder text = new StringBuilder(face.name()).append('(');
        for (int i = 0; i < row.length; i++) {
            text.append(i == 0 ? "" : ", ").append(row[i]);
        }
        return text.append(')').toString();
    }

    /** Each act that is refused, of very many, changes nothing; each that isn't counts. */
    private void refusedActs() {
        says("Refused calls answer by a code and change nothing");
        List<Integer> untouched = readActs(busy());
        List<Integer> tape = readTape(busy());
        for (Face face : ACTS) {
            for (int[] row : rowsOf(face.arguments())) {
                DeckBench bench = busy();
                int answer = face.call().on(bench, row);
                String name = told(face, row);
                due(name + ": a code from -5 to -2 or a number", answer >= 0 || (answer >= -5 && answer <= -2) ? 1 : 0, 1);
                if (answer < 0) {
                    due(name + ": slots, decks and acts stay", readActs(bench).equals(untouched) ? 1 : 0, 1);
                    DeckBench other = busy();
                    face.call().on(other, row);
                    due(name + ": tape and fault stay", readTape(other).equals(tape) ? 1 : 0, 1);
                } else {
                    due(name + ": ten acts can be undone", bench.count(0), 10);
                    due("undo() of " + name, bench.undo(), 9);
                }
            }
        }
    }

    /** An object is asked at most some 400 times, then looked at. */
    private void asksChangeNothing() {
        says("Refused calls answer by a code and change nothing");
        List<Integer> untouched = readActs(busy());
        List<Integer> tape = readTape(busy());
        for (Face face : ASKS) {
            List<int[]> rows = rowsOf(face.arguments());
            for (int from = 0; from < rows.size(); from += 64) {
                DeckBench bench = busy();
                DeckBench other = busy();
                for (int i = from; i < Math.min(rows.size(), from + 64); i++) {
                    int answer = face.call().on(bench, rows.get(i));
                    due(told(face, rows.get(i)) + " a second time", face.call().on(other, rows.get(i)), answer);
                }
                due(face.name() + ": slots, decks and acts stay", readActs(bench).equals(untouched) ? 1 : 0, 1);
                due(face.name() + ": tape and fault stay", readTape(other).equals(tape) ? 1 : 0, 1);
            }
        }
    }

    private void noSuch() {
        says("-2 there is none such (SLOT, DECK, NODE, CARD, what; a DECK that is none)");
        Face[] ofSlots = {ACTS[0], ACTS[1], ACTS[2], ACTS[3], ACTS[4], ACTS[5], ASKS[1], ASKS[2], ASKS[3], ASKS[4], ASKS[5],
            ASKS[6], ASKS[7], ASKS[8], ASKS[9], ASKS[10], ASKS[11]};
        int[] noSlots = {-1, 6, MIN, MAX};
        for (Face face : ofSlots) {
            for (int slot : noSlots) {
                due(face.name() + " of slot " + slot, face.call().on(busy(), new int[] {slot, 0, 1}), -2);
                due(face.name() + " of slot " + slot, face.call().on(new DeckBench(), new int[] {slot, 0, 1}), -2);
            }
        }
        Face[] ofDecks = {ACTS[6], ACTS[7], ASKS[12], ASKS[13], ASKS[14], ASKS[15], ASKS[16], ASKS[17], ASKS[18], ASKS[19],
            ASKS[20], ASKS[21]};
        int[] noDecks = {-1, 2, 3, MIN, MAX};
        for (Face face : ofDecks) {
            for (int deck : noDecks) {
                due(face.name() + " of deck " + deck, face.call().on(busy(), new int[] {deck, 0, 2}), -2);
                due(face.name() + " of deck " + deck, face.call().on(new DeckBench(), new int[] {deck, 0, 2}), -2);
            }
        }
    }

    private void firstOfSeveral() {
        says("(Of several that which the call tells first; all these ahead of NONE.)");
        refused("tell(21): n ahead of a fault", -3, b -> b.tell(21));
        refused("grow(-1, -1): slot, bits", -2, b -> b.grow(-1, -1));
        refused("grow(1, 256): bits, n is 7", -3, b -> b.grow(1, 256));
        refused("deal(4, 3): no deck, no nodes", -2, b -> b.deal(4, 3));
        refused("deal(6, 0)", -2, b -> b.deal(6, 0));
        refused("replace(2, 0, 4): none, no nodes", -2, b -> b.replace(2, 0, 4));
        refused("replace(0, 4, 4): no card, no nodes", -2, b -> b.replace(0, 4, 4));
        refused("least(4, 2): what, no nodes", -2, b -> b.least(4, 2));
        refused("lineDeck(6, -2): slot, k", -2, b -> b.lineDeck(6, -2));
        refused("term(6, -1): slot, k", -2, b -> b.term(6, -1));
        refused("toldParts(2, 4): none, no nodes", -2, b -> b.toldParts(2, 4));
        refused("toldParts(1, 6): slot, n is 2", -2, b -> b.toldParts(1, 6));
        refused("toldTerm(2, -1): none, k", -2, b -> b.toldTerm(2, -1));
        refused("answers(2, -2): none, k", -2, b -> b.answers(2, -2));
        refused("mends(1, 2): card, n is 2", -2, b -> b.mends(1, 2));
        refused("node(3, 0, 4): what, n is 1", -2, b -> b.node(3, 0, 4));
        refused("told(1, 5): what, n is 2", -2, b -> b.told(1, 5));
        refused("degree(1, 2): card, n is 2", -2, b -> b.degree(1, 2));
        refused("proved(1, 6): what, two answers", -2, b -> b.proved(1, 6));
        refused("card(3, NONE): deck", -2, b -> b.card(3, NONE));
        DeckBench x = with("net 0 4;net 1 2 01;deck 0 4 card card card card 01;");
        due("toldParts(0, 0): -5 ahead of NONE", x.toldParts(0, 0), -5);
        due("toldParts(0, 1): NONE", x.toldParts(0, 1), NONE);
        due("toldTerm(0, 4): -3 ahead of NONE", x.toldTerm(0, 4), -3);
        due("toldTerm(0, 2): NONE", x.toldTerm(0, 2), NONE);
        due("answers(0, -2): -3 ahead of NONE", x.answers(0, -2), -3);
        due("proved(0, -1): -2 ahead of NONE", x.proved(0, -1), -2);
        due("told(0, 5): -2 ahead of NONE", x.told(0, 5), -2);
        due("degree(0, -1): -2 ahead of NONE", x.degree(0, -1), -2);
        due("solve(0, 6): -2 ahead of -5", x.solve(0, 6), -2);
        due("solve(0, 5): -5", x.solve(0, 5), -5);
        due("far(1, 0, 2): -2", x.far(1, 0, 2), -2);
        due("far(0, 0, 4): -2 ahead of NONE", x.far(0, 0, 4), -2);
    }

    private void longUse() {
        says("An object is used for at most 512 calls after it has been made; what later calls answer is free.");
        DeckBench x = new DeckBench();
        for (int call = 1; call <= 504; call += 7) {
            x.grow(0, 0);
            x.turn(0, 1);
            x.deal(1, 0);
            x.drop(0, 0);
            x.feed(0x6e657420, 0x35203720, 0x30312036, 0x353b2020, 0x20202020);
            x.undo();
            x.reason(0);
        }
        due("call 505: count(0)", x.count(0), 9);
        due("call 506: count(1)", x.count(1), 600);
        due("call 507: tell(600)", x.tell(600), 30);
        due("call 508: net(5, 2)", x.net(5, 2), 1 + (1 << 20));
        due("call 509: deal(5, 2)", x.deal(5, 2), 2);
        due("call 510: answers(2, NONE)", x.answers(2, NONE), 1);
        due("call 511: undo()", x.undo(), 0);
        due("call 512: card(2, NONE)", x.card(2, NONE), NONE);
    }

    @Override
    void all() {
        refusedActs();
        asksChangeNothing();
        noSuch();
        firstOfSeveral();
        longUse();
    }

    public static void main(String[] args) {
        new RefusalSentenceTest().run();
    }
}
