/** Long runs of calls, each answered by DeckBench and by DeckModel: the answers must be the same. */
public final class ModelTest {
    private static final int RUNS = 260;
    private static final int CALLS = 512;
    private static final String[] WORDS = {"net", "deck", "card", "cards", "ne", ";", "", " ", "0", "1", "7", "8", "01",
        "10", "11", "012", "00", "A", "-", "\t", "\u00ff", "\u0000", "\n", "\r"};

    private int wrong = 0;
    private long seed;
    private DeckBench bench;
    private DeckModel model;
    private int run;

    private int pick(int below) {
        seed = seed * 6364136223846793005L + 1442695040888963407L;
        return (int) ((seed >>> 33) % below);
    }

    /** Mostly from 0 to below the limit, at times beside it or far away. */
    private int near(int limit) {
        int how = pick(40);
        if (how == 0) {
            return -1 - pick(3);
        }
        if (how == 1) {
            return limit + pick(3);
        }
        if (how == 2) {
            int[] far = {Integer.MIN_VALUE, Integer.MAX_VALUE, -1, 31, 32, 64, -32, 1 << 16};
            return far[pick(far.length)];
        }
        return pick(Math.max(1, limit));
    }

    private int slot() {
        return near(6);
    }

    private int deck() {
        return near(3);
    }

    private int nodeOf(int slot) {
        return near(slot >= 0 && slot < 6 ? Math.max(1, model.net(slot, 0)) : 7);
    }

    private int cardOf(int deck) {
        return near(deck >= 0 && deck < 3 ? Math.max(1, model.card(deck, -1)) : 7);
    }

    private int due(String call, int got, int want) {
        if (got != want) {
            wrong++;
            if (wrong < 30) {
                System.out.println("run " + run + ": " + call + " answered " + got + ", the model " + want);
            }
        }
        return want;
    }

    private String pairs(int nodes) {
        StringBuilder text = new StringBuilder();
        int dense = pick(4);
        for (int b = 1; b < nodes; b++) {
            for (int a = 0; a < b; a++) {
                if (pick(4) <= dense && pick(3) > 0) {
                    text.append(' ').append(pick(2) == 0 ? "" + a + b : "" + b + a);
                }
            }
        }
        return text.toString();
    }

    private String line() {
        if (pick(3) > 0) {
            int nodes = pick(8);
            return "net " + pick(6) + " " + nodes + pairs(nodes) + ";";
        }
        int nodes = 2 + pick(pick(2) == 0 ? 3 : 6);
        StringBuilder text = new StringBuilder("deck " + pick(3) + " " + nodes);
        for (int i = 0; i < nodes; i++) {
            boolean behindNumber = Character.isDigit(text.charAt(text.length() - 1));
            text.append(behindNumber && pick(2) == 0 ? "card" : " card").append(pairs(nodes - 1));
        }
        return text + (pick(2) == 0 ? " ; " : ";");
    }

    private String spoilt(String text) {
        int at = pick(text.length() + 1);
        int end = Math.min(text.length(), at + pick(4));
        switch (pick(4)) {
            case 0:
                return text.substring(0, at);
            case 1:
                return text.substring(0, at) + text.substring(end);
            default:
                return text.substring(0, at) + WORDS[pick(WORDS.length)] + text.substring(end);
        }
    }

    private void tellText() {
        StringBuilder lines = new StringBuilder();
        int many = pick(9);
        for (int i = 0; i < many; i++) {
            lines.append(line());
        }
        String text = lines.toString();
        if (pick(3) == 0) {
            text = spoilt(text);
        }
        tellBytes(text);
    }

    private void tellBytes(String text) {
        due("feed", Tape.feed(bench, text), Tape.feed(model, text));
        int length = Math.min(600, text.length()) + (pick(20) == 0 ? near(600) - 300 : 0);
        String told = text.replaceAll("[^ -~]", "?") + " of " + length;
        due("tell: " + told, bench.tell(length), model.tell(length));
        due("fault(0): " + told, bench.fault(0), model.fault(0));
        due("fault(1): " + told, bench.fault(1), model.fault(1));
    }

    /** Each slot told, so that a run doesn't begin with empty ones. */
    private void tellSlots() {
        StringBuilder text = new StringBuilder();
        for (int slot = 0; slot < 6; slot++) {
            int nodes = pick(4) == 0 ? pick(8) : 3 + pick(pick(2) == 0 ? 3 : 5);
            text.append("net ").append(slot).append(' ').append(nodes).append(pairs(nodes)).append(';');
        }
        tellBytes(text.toString());
        for (int deck = 0; deck < 3; deck++) {
            due("deal", bench.deal(deck, deck), model.deal(deck, deck));
        }
    }

    private void act() {
        int slot = slot();
        int other = slot();
        int deck = deck();
        int card = cardOf(deck);
        int node = nodeOf(slot);
        int second = nodeOf(slot);
        switch (pick(11)) {
            case 0:
            case 1:
                due("join(" + slot + ", " + node + ", " + second + ")", bench.join(slot, node, second),
                        model.join(slot, node, second));
                break;
            case 2:
            case 3:
                int bits = near(1 << Math.max(0, model.net(slot, 0)));
                due("grow(" + slot + ", " + bits + ")", bench.grow(slot, bits), model.grow(slot, bits));
                break;
            case 4:
                due("drop(" + slot + ", " + node + ")", bench.drop(slot, node), model.drop(slot, node));
                break;
            case 5:
                due("turn(" + slot + ", " + other + ")", bench.turn(slot, other), model.turn(slot, other));
                break;
            case 6:
                due("put(" + slot + ", " + other + ")", bench.put(slot, other), model.put(slot, other));
                break;
            case 7:
                due("deal(" + slot + ", " + deck + ")", bench.deal(slot, deck), model.deal(slot, deck));
                break;
            case 8:
                due("replace(" + deck + ", " + card + ", " + slot + ")", bench.replace(deck, card, slot),
                        model.replace(deck, card, slot));
                break;
            case 9:
                due("solve(" + deck + ", " + slot + ")", bench.solve(deck, slot), model.solve(deck, slot));
                break;
            default:
                due("undo()", bench.undo(), model.undo());
                break;
        }
    }

    private void askOfNets() {
        int slot = slot();
        int other = slot();
        int node = nodeOf(slot);
        int second = nodeOf(slot);
        int what = near(8);
        int k = near(9) - 1;
        String of = "(" + slot + ", " + what + ")";
        switch (pick(12)) {
            case 0:
            case 1:
                due("net" + of, bench.net(slot, what), model.net(slot, what));
                break;
            case 2:
                what = near(4);
                due("node(" + slot + ", " + node + ", " + what + ")", bench.node(slot, node, what),
                        model.node(slot, node, what));
                break;
            case 3:
                due("alike(" + slot + ", " + other + ")", bench.alike(slot, other), model.alike(slot, other));
                break;
            case 4:
                due("parts(" + slot + ", " + other + ")", bench.parts(slot, other), model.parts(slot, other));
                break;
            case 5:
                what = near(2);
                due("least(" + slot + ", " + what + ")", bench.least(slot, what), model.least(slot, what));
                break;
            case 6:
                due("rivals(" + slot + ")", bench.rivals(slot), model.rivals(slot));
                break;
            case 7:
                due("lineDeck(" + slot + ", " + k + ")", bench.lineDeck(slot, k), model.lineDeck(slot, k));
                break;
            case 8:
                what = near(6);
                due("is(" + slot + ", " + what + ")", bench.is(slot, what), model.is(slot, what));
                break;
            case 9:
                due("trees(" + slot + ")", bench.trees(slot), model.trees(slot));
                break;
            case 10:
                k = near(8);
                due("term(" + slot + ", " + k + ")", bench.term(slot, k), model.term(slot, k));
                break;
            default:
                due("far(" + slot + ", " + node + ", " + second + ")", bench.far(slot, node, second),
                        model.far(slot, node, second));
                break;
        }
    }

    private void askOfDecks() {
        int deck = deck();
        int other = deck();
        int slot = slot();
        int card = cardOf(deck);
        int k = near(4) - 1;
        int what = near(6);
        switch (pick(12)) {
            case 0:
                card = pick(4) == 0 ? -1 : card;
                due("card(" + deck + ", " + card + ")", bench.card(deck, card), model.card(deck, card));
                break;
            case 1:
                due("common(" + deck + ", " + other + ")", bench.common(deck, other), model.common(deck, other));
                break;
            case 2:
                what = near(5);
                due("told(" + deck + ", " + what + ")", bench.told(deck, what), model.told(deck, what));
                break;
            case 3:
                due("degree(" + deck + ", " + card + ")", bench.degree(deck, card), model.degree(deck, card));
                break;
            case 4:
                due("toldParts(" + deck + ", " + slot + ")", bench.toldParts(deck, slot), model.toldParts(deck, slot));
                break;
            case 5:
                due("toldTerm(" + deck + ", " + card + ")", bench.toldTerm(deck, card), model.toldTerm(deck, card));
                break;
            case 6:
                due("proved(" + deck + ", " + what + ")", bench.proved(deck, what), model.proved(deck, what));
                break;
            case 7:
            case 8:
                due("reason(" + deck + ")", bench.reason(deck), model.reason(deck));
                break;
            case 9:
                due("answers(" + deck + ", " + k + ")", bench.answers(deck, k), model.answers(deck, k));
                break;
            case 10:
                due("mends(" + deck + ", " + card + ")", bench.mends(deck, card), model.mends(deck, card));
                break;
            default:
                what = near(18);
                due("count(" + what + ")", bench.count(what), model.count(what));
                break;
        }
    }

    private void compareAll() {
        for (int slot = 0; slot < 6; slot++) {
            due("net(" + slot + ", 0)", bench.net(slot, 0), model.net(slot, 0));
            due("net(" + slot + ", 2)", bench.net(slot, 2), model.net(slot, 2));
        }
        for (int deck = 0; deck < 3; deck++) {
            for (int card = -1; card < 7; card++) {
                due("card(" + deck + ", " + card + ")", bench.card(deck, card), model.card(deck, card));
            }
        }
    }

    private void runOnce(int number) {
        run = number;
        seed = number * 7919L + 17;
        bench = new DeckBench();
        model = new DeckModel();
        for (int i = 0; i < CALLS; i++) {
            int how = pick(60);
            if (i % 128 == 0) {
                tellSlots();
            } else if (how == 0) {
                tellText();
            } else if (how < 12) {
                act();
            } else if (how < 36) {
                askOfNets();
            } else {
                askOfDecks();
            }
            if (how == 1) {
                compareAll();
            }
        }
    }

    public static void main(String[] args) {
        ModelTest test = new ModelTest();
        for (int i = 0; i < RUNS; i++) {
            test.runOnce(i);
        }
        System.out.println(test.wrong == 0 ? "all answers are the model's" : test.wrong + " answers are not the model's");
        if (test.wrong != 0) {
            System.exit(1);
        }
    }
}
