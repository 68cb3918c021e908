import java.util.Arrays;

/** Every deck of 2 to 5 that can be told, true and false, and many of 6 and 7 that are true but for a card or two. */
public final class EveryDeckTest {
    private int wrong = 0;
    private long seed = 11;
    private String of;
    private final int[] reasons = new int[5];
    private final int[][] forms = new int[8][];

    private int pick(int below) {
        seed = seed * 6364136223846793005L + 1442695040888963407L;
        return (int) ((seed >>> 33) % below);
    }

    private int due(String call, int got, int want) {
        if (got != want) {
            wrong++;
            if (wrong < 30) {
                System.out.println(of + ": " + call + " answered " + got + ", the model " + want);
            }
        }
        return want;
    }

    private void compare(int[] cards) {
        of = "deck " + Arrays.toString(cards);
        DeckBench bench = new DeckBench();
        DeckModel model = new DeckModel();
        String text = Tape.deck(1, cards) + "net 0 1;net 1 2;net 2 3 01 12;net 3 4 01 12 23;net 4 3 02;";
        if (text.length() > 600) {
            return;
        }
        Tape.feed(bench, text);
        Tape.feed(model, text);
        due("tell", bench.tell(text.length()), model.tell(text.length()));
        for (int i = 0; i < 7; i++) {
            due("card(1, " + i + ")", bench.card(1, i), model.card(1, i));
            due("degree(1, " + i + ")", bench.degree(1, i), model.degree(1, i));
            due("told(1, " + i + ")", bench.told(1, i), model.told(1, i));
            due("toldTerm(1, " + i + ")", bench.toldTerm(1, i), model.toldTerm(1, i));
            due("toldParts(1, " + i + ")", bench.toldParts(1, i), model.toldParts(1, i));
            due("proved(1, " + i + ")", bench.proved(1, i), model.proved(1, i));
            due("mends(1, " + i + ")", bench.mends(1, i), model.mends(1, i));
        }
        for (int k = -1; k < 3; k++) {
            due("answers(1, " + k + ")", bench.answers(1, k), model.answers(1, k));
        }
        reasons[due("reason(1)", bench.reason(1), model.reason(1))]++;
        due("solve(1, 5)", bench.solve(1, 5), model.solve(1, 5));
        due("net(5, 2)", bench.net(5, 2), model.net(5, 2));
    }

    private void compareAll(int[] cards, int at, int least) {
        if (at == cards.length) {
            compare(cards.clone());
            return;
        }
        for (int i = least; i < forms[cards.length - 1].length; i++) {
            cards[at] = forms[cards.length - 1][i];
            compareAll(cards, at + 1, i);
        }
    }

    /** Another card, most often of as many lines: lines and degrees don't show it. */
    private int another(int nodes, int card) {
        int[] all = forms[nodes];
        for (int tries = 0; tries < 200; tries++) {
            int other = all[pick(all.length)];
            if (other != card && (pick(20) == 0 || Integer.bitCount(other) == Integer.bitCount(card))) {
                return other;
            }
        }
        return card;
    }

    private void compareSpoilt(int n, int many) {
        for (int i = 0; i < many; i++) {
            int[] cards = DeckModel.deckOf(n, forms[n][pick(forms[n].length)]);
            for (int changes = 1 + pick(2); changes > 0; changes--) {
                int at = pick(n);
                cards[at] = another(n - 1, cards[at]);
            }
            compare(cards);
        }
    }

    public static void main(String[] args) {
        EveryDeckTest test = new EveryDeckTest();
        for (int n = 0; n <= 7; n++) {
            test.forms[n] = DeckModel.classes(n);
        }
        for (int n = 2; n <= 5; n++) {
            test.compareAll(new int[n], 0, 0);
        }
        test.compareSpoilt(6, 1500);
        test.compareSpoilt(7, 700);
        for (int reason = 0; reason < 5; reason++) {
            if (test.reasons[reason] < 20) {
                test.wrong++;
                System.out.println("reason " + reason + " was met only " + test.reasons[reason] + " times");
            }
        }
        System.out.println(test.wrong == 0 ? "all decks are told as due" : test.wrong + " answers are not as due");
        if (test.wrong != 0) {
            System.exit(1);
        }
    }
}
