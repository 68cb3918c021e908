/** Every net of 0 to 7 nodes, oddly numbered: all that is asked of nets, its deck dealt and told again. */
public final class EveryNetTest {
    private int wrong = 0;
    private long seed = 7;
    private String of;

    private int pick(int below) {
        seed = seed * 6364136223846793005L + 1442695040888963407L;
        return (int) ((seed >>> 33) % below);
    }

    private void due(String call, int got, int want) {
        if (got != want) {
            wrong++;
            if (wrong < 30) {
                System.out.println(of + ": " + call + " answered " + got + ", the model " + want);
            }
        }
    }

    /** The nodes in another order: each goes and comes again behind all. */
    private int shuffled(DeckModel model, int n, int form) {
        int[] order = new int[n];
        for (int i = 0; i < n; i++) {
            int at = pick(i + 1);
            order[i] = order[at];
            order[at] = i;
        }
        int code = 0;
        for (int b = 1; b < n; b++) {
            for (int a = 0; a < b; a++) {
                int hi = Math.max(order[a], order[b]);
                int lo = Math.min(order[a], order[b]);
                code |= (form >> b * (b - 1) / 2 + a & 1) << hi * (hi - 1) / 2 + lo;
            }
        }
        return code;
    }

    private void compare(int n, int form) {
        DeckBench bench = new DeckBench();
        DeckModel model = new DeckModel();
        int code = shuffled(model, n, form);
        of = "net of " + n + " nodes, form " + form + ", code " + code;
        String text = Tape.net(0, n, code) + Tape.net(1, n, form) + "net 2 3 01;net 3 3 01 12;net 4 4 01 23;";
        Tape.feed(bench, text);
        Tape.feed(model, text);
        due("tell", bench.tell(text.length()), model.tell(text.length()));
        due("alike(0, 1)", bench.alike(0, 1), 1);
        due("net(0, 3)", bench.net(0, 3), form);
        for (int what = 0; what < 8; what++) {
            due("net(0, " + what + ")", bench.net(0, what), model.net(0, what));
            due("is(0, " + what + ")", bench.is(0, what), model.is(0, what));
            due("term(0, " + what + ")", bench.term(0, what), model.term(0, what));
        }
        for (int v = 0; v < n; v++) {
            for (int what = 0; what < 4; what++) {
                due("node(0, " + v + ", " + what + ")", bench.node(0, v, what), model.node(0, v, what));
            }
            for (int w = 0; w < n; w++) {
                due("far(0, " + v + ", " + w + ")", bench.far(0, v, w), model.far(0, v, w));
            }
        }
        for (int p = 0; p < 5; p++) {
            due("parts(" + p + ", 0)", bench.parts(p, 0), model.parts(p, 0));
        }
        for (int k = -1; k <= Integer.bitCount(code); k++) {
            due("lineDeck(0, " + k + ")", bench.lineDeck(0, k), model.lineDeck(0, k));
        }
        due("trees(0)", bench.trees(0), model.trees(0));
        due("least(0, 0)", bench.least(0, 0), model.least(0, 0));
        due("least(0, 1)", bench.least(0, 1), model.least(0, 1));
        due("rivals(0)", bench.rivals(0), model.rivals(0));
        due("deal(0, 0)", bench.deal(0, 0), model.deal(0, 0));
        compareDeck(bench, model);
    }

    private void compareDeck(DeckBench bench, DeckModel model) {
        for (int i = -1; i < 8; i++) {
            due("card(0, " + i + ")", bench.card(0, i), model.card(0, i));
            due("degree(0, " + i + ")", bench.degree(0, i), model.degree(0, i));
            due("told(0, " + i + ")", bench.told(0, i), model.told(0, i));
            due("toldTerm(0, " + i + ")", bench.toldTerm(0, i), model.toldTerm(0, i));
            due("proved(0, " + i + ")", bench.proved(0, i), model.proved(0, i));
            due("toldParts(0, " + i + ")", bench.toldParts(0, i), model.toldParts(0, i));
            due("mends(0, " + i + ")", bench.mends(0, i), model.mends(0, i));
            due("answers(0, " + i + ")", bench.answers(0, i), model.answers(0, i));
        }
        due("reason(0)", bench.reason(0), model.reason(0));
        due("solve(0, 5)", bench.solve(0, 5), model.solve(0, 5));
        due("net(5, 2)", bench.net(5, 2), model.net(5, 2));
    }

    public static void main(String[] args) {
        EveryNetTest test = new EveryNetTest();
        for (int n = 0; n <= 7; n++) {
            for (int form : DeckModel.classes(n)) {
                test.compare(n, form);
            }
        }
        System.out.println(test.wrong == 0 ? "all nets are told as due" : test.wrong + " answers are not as due");
        if (test.wrong != 0) {
            System.exit(1);
        }
    }
}
