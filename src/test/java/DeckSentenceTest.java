/** The document's sentences on decks (Terms, promises 25 to 35), each by itself. */
public final class DeckSentenceTest extends Sentences {
    /** A node with legs of 1, 2 and 3 nodes: its cards are all unlike. */
    private static final String UNEVEN_TREE = "net 0 7 01 02 23 04 45 56;";
    /** One deck for each REASON from 1 to 4. */
    private static final String[] FALSE_DECKS = {"deck 0 4 card card card card 01;", "deck 0 4 card card card card 01 12;",
        "deck 0 5 card card card 01 02 card 01 12 card 13 23;", "deck 0 4 card card 01 02 12 card 01 02 12card;"};

    private static int[] manyCards(int many, int form, int... others) {
        int[] cards = new int[many + others.length];
        for (int i = 0; i < cards.length; i++) {
            cards[i] = i < many ? form : others[i - many];
        }
        return cards;
    }

    /** An object whose deck 0 is that of a net told as slot 0. */
    private DeckBench dealt(String text) {
        DeckBench bench = with(text);
        bench.deal(0, 0);
        return bench;
    }

    private void decksOnly(String name, int code, CallWith call) {
        int[] wrongDecks = {-1, 3, MIN, MAX};
        for (int deck : wrongDecks) {
            refused(name + " of deck " + deck, code, b -> call.on(b, deck));
        }
        taken(name + " of deck 0", b -> call.on(b, 0));
        taken(name + " of deck 2", b -> {
            b.deal(0, 2);
            return call.on(b, 2);
        });
        refused(name + " of a deck that is none", code, b -> call.on(b, 2));
    }

    private void decks() {
        says("A DECK of n (2 to 7): n CARDS, NETS of n - 1 NODES each, told by their FORMS, the least FORM first");
        for (int n = 2; n <= 7; n++) {
            int cardLines = (1 << (n - 1) * (n - 2) / 2) - 1;
            DeckBench x = withNet(n, (1 << n * (n - 1) / 2) - 1);
            due("deal of " + n + " nodes, all lines", x.deal(0, 0), 1);
            due("card(0, NONE)", x.card(0, NONE), n);
            for (int card = 0; card < n; card++) {
                due("card(0, " + card + ")", x.card(0, card), cardLines);
            }
            due("card(0, " + n + ")", x.card(0, n), -2);
        }
        DeckBench tree = dealt(UNEVEN_TREE);
        for (int card = 1; card < 7; card++) {
            int above = tree.card(0, card) > tree.card(0, card - 1) ? 1 : 0;
            due("card(0, " + card + ") is above the one ahead", above, 1);
        }

        says("DECK of a NET of n NODES, n 2 or more: for each NODE a CARD");
        for (int n = 0; n < 2; n++) {
            DeckBench x = withNet(n, 0);
            due("deal of " + n + " nodes", x.deal(0, 0), -5);
            due("card(0, NONE)", x.card(0, NONE), NONE);
        }
        DeckBench x = dealt("net 0 5 01 02 03;");
        int[] cards = {0, 3, 3, 3, 11};
        for (int card = 0; card < 5; card++) {
            due("card(0, " + card + ") of a star and a node", x.card(0, card), cards[card]);
        }

        says("the NET without it and its LINES (those behind it are numbered one less).");
        x = with("net 0 4 01 23;net 1 4 01 23;");
        x.drop(0, 0);
        due("net(0, 2): 23 is 12", x.net(0, 2), 4);
        due("node(1, 0, 3): its form", x.node(1, 0, 3), 1);
        x.drop(1, 3);
        due("net(1, 2): 01", x.net(1, 2), 1);
    }

    private void card() {
        says("FORM of a CARD; card NONE: n.");
        DeckBench x = with("deck 0 2 card card;" + Tape.deck(1, manyCards(1, 0, 1, 3, 15, 31, 63, EVERY_LINE_OF_6)));
        due("card(0, NONE)", x.card(0, NONE), 2);
        due("card(0, 1)", x.card(0, 1), 0);
        due("card(1, NONE)", x.card(1, NONE), 7);
        due("card(1, 0)", x.card(1, 0), 0);
        due("card(1, 6)", x.card(1, 6), EVERY_LINE_OF_6);

        says("-2 (but for card NONE: NONE, if the DECK is none).");
        due("card(0, 2) of n 2", x.card(0, 2), -2);
        due("card(1, 7) of n 7", x.card(1, 7), -2);
        due("card(2, NONE): none", x.card(2, NONE), NONE);
        due("card(2, 0): none", x.card(2, 0), -2);
        due("card(2, -2): none", x.card(2, -2), -2);
        int[] wrongCards = {-2, 4, MIN, MAX};
        for (int card : wrongCards) {
            refused("card(0, " + card + ")", -2, b -> b.card(0, card));
            refused("card(2, " + card + ")", -2, b -> b.card(2, card));
        }
        taken("card(0, NONE)", b -> b.card(0, NONE));
        taken("card(0, 3)", b -> b.card(0, 3));
        decksOnly("card(deck, 0)", -2, (b, deck) -> b.card(deck, 0));
        bounds("card(deck, NONE)", 0, 2, -2, (b, deck) -> b.card(deck, NONE));
    }

    private void commonIs(String one, String other, int want) {
        DeckBench x = with("deck 0 " + one + ";deck 2 " + other + ";");
        due("common(0, 2) of " + one + " and " + other, x.common(0, 2), want);
        due("common(2, 0) of " + one + " and " + other, x.common(2, 0), want);
    }

    private void common() {
        says("How many CARDS two DECKS have in common (each as often as in both).");
        commonIs("3 card card card", "3 card 01 card 01 card 01", 0);
        commonIs("3 card card card", "3 card card card 01", 2);
        commonIs("3 card card card 01", "3 card card 01 card 01", 2);
        commonIs("3 card card card", "3 card card card", 3);
        commonIs("2 card card", "2 card card", 2);
        commonIs("2 card card", "3 card card card", 0);
        commonIs("3 card 01 card card", "4 card 01 card card card", 0);
        DeckBench x = dealt(UNEVEN_TREE);
        due("common(0, 0) of 7", x.common(0, 0), 7);
        x.deal(0, 2);
        due("common(0, 2) of 7", x.common(0, 2), 7);

        says("How many CARDS two DECKS have in common (each as often as in both). -2.");
        decksOnly("common(one, 0)", -2, (b, one) -> b.common(one, 0));
        decksOnly("common(0, other)", -2, (b, other) -> b.common(0, other));
        refused("common(2, 2): none", -2, b -> b.common(2, 2));
    }

    private void toldIs(DeckBench x, int... want) {
        for (int what = 0; what < 5; what++) {
            due("told(0, " + what + ")", x.told(0, what), want[what]);
        }
    }

    private void told() {
        says("TOLD LINES: LINES of all CARDS, added, by n - 2.");
        toldIs(withDeck(0, 0, 0), 0, 100, 100, 1, 0);
        toldIs(withDeck(0, 0, 1), 1, 101, 100, 0, 1);
        toldIs(withDeck(1, 1, 1), 3, 102, 102, 1, 3);
        toldIs(withDeck(manyCards(7, 0)), 0, 100, 100, 1, 0);
        toldIs(withDeck(manyCards(7, EVERY_LINE_OF_6)), 21, 106, 106, 1, 7);

        says("TOLD DEGREE of a CARD: TOLD LINES less its LINES.");
        toldIs(withDeck(manyCards(6, EVERY_LINE_OF_6, 0)), 18, 118, 103, 0, 6);
        toldIs(withDeck(manyCards(6, 0, EVERY_LINE_OF_6)), 3, 103, 88, 0, 1);

        // the least form is not always that of the fewest lines: cards of 5, 3, 3, 3, 3, 3 lines
        toldIs(withDeck(31, 76, 76, 76, 76, 76), 5, 102, 100, 0, 0);

        says("4 how many CARDS have one PIECE.");
        DeckBench x = with("deck 0 5 card 01 02 03 card 01 12 23 card 01 23 card 01 02 12 card;");
        due("told(0, 4): cards of 1, 1, 2, 2, 4 pieces", x.told(0, 4), 2);

        says("NONE: n is 2 (but 4), or TOLD LINES are no whole number (but 4); -2.");
        toldIs(withDeck(0, 0), NONE, NONE, NONE, NONE, 2);
        toldIs(withDeck(0, 0, 0, 1), NONE, NONE, NONE, NONE, 0);
        toldIs(withDeck(7, 7, 7, 3), NONE, NONE, NONE, NONE, 4);
        toldIs(withDeck(manyCards(6, 0, 1)), NONE, NONE, NONE, NONE, 0);
        due("told(0, 5) of n 2: -2 ahead of NONE", withDeck(0, 0).told(0, 5), -2);
        due("told(0, -1) of no whole number: -2 ahead of NONE", withDeck(0, 0, 0, 1).told(0, -1), -2);
        bounds("told(0, what)", 0, 4, -2, (b, what) -> b.told(0, what));
        bounds("told(1, what): n is 2", 0, 4, -2, (b, what) -> b.told(1, what));
        decksOnly("told(deck, 0)", -2, (b, deck) -> b.told(deck, 0));
        decksOnly("told(deck, 4)", -2, (b, deck) -> b.told(deck, 4));
    }

    private void degree() {
        says("TOLD DEGREE of a CARD, told 100 more.");
        DeckBench x = withDeck(manyCards(6, EVERY_LINE_OF_6, 0));
        due("degree(0, 0): far above n - 1", x.degree(0, 0), 118);
        due("degree(0, 6)", x.degree(0, 6), 103);
        x = withDeck(manyCards(6, 0, EVERY_LINE_OF_6));
        due("degree(0, 6): far below 0", x.degree(0, 6), 88);
        due("degree(0, 0)", x.degree(0, 0), 103);
        x = withDeck(0, 0, 1);
        due("degree(0, 0) of n 3", x.degree(0, 0), 101);
        due("degree(0, 2) of n 3", x.degree(0, 2), 100);

        says("NONE: n is 2, or TOLD LINES are no whole number; -2.");
        due("degree(0, 0) of n 2", withDeck(0, 0).degree(0, 0), NONE);
        due("degree(0, 1) of n 2", withDeck(0, 0).degree(0, 1), NONE);
        due("degree(0, 2) of n 2: -2 ahead of NONE", withDeck(0, 0).degree(0, 2), -2);
        due("degree(0, 3) of no whole number", withDeck(0, 0, 0, 1).degree(0, 3), NONE);
        due("degree(0, 4) of no whole number: -2 ahead of NONE", withDeck(0, 0, 0, 1).degree(0, 4), -2);
        due("degree(0, 0) of 6 by 5", withDeck(manyCards(1, 0, 1, 1, 1, 1, 1, 1)).degree(0, 0), NONE);
        bounds("degree(0, card)", 0, 3, -2, (b, card) -> b.degree(0, card));
        bounds("degree(1, card): n is 2", 0, 1, -2, (b, card) -> b.degree(1, card));
        decksOnly("degree(deck, 0)", -2, (b, deck) -> b.degree(deck, 0));
    }

    private void toldParts() {
        says("TOLD PARTS of a NET p with 1 to n - 1 NODES: PARTS of p in all CARDS, added, by n less NODES of p.");
        DeckBench x = with("net 1 1;net 2 2;net 3 2 01;net 4 6;" + Tape.net(5, 6, EVERY_LINE_OF_6)
                + Tape.deck(0, manyCards(7, EVERY_LINE_OF_6)) + Tape.deck(1, manyCards(3, 1)));
        due("toldParts(0, 1): nodes", x.toldParts(0, 1), 7);
        due("toldParts(0, 3): lines", x.toldParts(0, 3), 21);
        due("toldParts(0, 2): none", x.toldParts(0, 2), 0);
        due("toldParts(0, 5): cards", x.toldParts(0, 5), 7);
        due("toldParts(0, 4): none", x.toldParts(0, 4), 0);
        due("toldParts(1, 1) of n 3", x.toldParts(1, 1), 3);
        due("toldParts(1, 3) of n 3", x.toldParts(1, 3), 3);

        says("NONE: they are no whole number; -2; -5: p hasn't 1 to n - 1 NODES, n is 2.");
        x = with("net 0 2 01;net 1 2;net 2 1;net 3 3 01;net 4 4;" + FALSE_DECKS[0]);
        due("toldParts(0, 0): 1 by 2", x.toldParts(0, 0), NONE);
        due("toldParts(0, 1): 11 by 2", x.toldParts(0, 1), NONE);
        due("toldParts(0, 2): nodes", x.toldParts(0, 2), 4);
        due("toldParts(0, 3): n - 1 nodes, by 1", x.toldParts(0, 3), 1);
        due("toldParts(0, 4): n nodes", x.toldParts(0, 4), -5);
        due("toldParts(0, 5): no nodes", x.toldParts(0, 5), -5);
        x = with("net 0 1;net 1 2;net 2 3;deck 0 2 card card;deck 1 3 card card card;");
        due("toldParts(0, 0): n is 2", x.toldParts(0, 0), -5);
        due("toldParts(0, 1): n is 2", x.toldParts(0, 1), -5);
        due("toldParts(0, 5): n is 2, no nodes", x.toldParts(0, 5), -5);
        due("toldParts(1, 0): n is 3", x.toldParts(1, 0), 3);
        due("toldParts(1, 1): n is 3", x.toldParts(1, 1), 3);
        due("toldParts(1, 2): n is 3, 3 nodes", x.toldParts(1, 2), -5);
        refused("toldParts(0, 0): n nodes", -5, b -> b.toldParts(0, 0));
        refused("toldParts(0, 1): 7 nodes", -5, b -> b.toldParts(0, 1));
        refused("toldParts(0, 4): no nodes", -5, b -> b.toldParts(0, 4));
        refused("toldParts(1, 3): n is 2", -5, b -> b.toldParts(1, 3));
        int[] wrongSlots = {-1, 6, MIN, MAX};
        for (int slot : wrongSlots) {
            refused("toldParts(0, " + slot + ")", -2, b -> b.toldParts(0, slot));
            refused("toldParts(1, " + slot + "): n is 2, the slot first", -2, b -> b.toldParts(1, slot));
        }
        refused("toldParts(2, 4): none, the deck first", -2, b -> b.toldParts(2, 4));
        decksOnly("toldParts(deck, 2)", -2, (b, deck) -> b.toldParts(deck, 2));
    }

    private void toldTerm() {
        says("By a DECK alone TOLD C(k), k below n: C(k) of all CARDS, added, by n - k.");
        int[] whole = {10001, 10000, 9979, 9930, 9895, 9916, 9965};
        DeckBench x = with(Tape.deck(0, manyCards(7, EVERY_LINE_OF_6)) + "deck 1 2 card card;deck 2 3 card 01 card card;");
        for (int k = 0; k < 7; k++) {
            due("toldTerm(0, " + k + ") of all lines", x.toldTerm(0, k), whole[k]);
        }
        due("toldTerm(1, 0) of n 2", x.toldTerm(1, 0), 10001);
        due("toldTerm(1, 1) of n 2", x.toldTerm(1, 1), 10000);
        due("toldTerm(1, 2) of n 2", x.toldTerm(1, 2), -3);
        due("toldTerm(2, 2) of n 3", x.toldTerm(2, 2), 9999);
        due("toldTerm(2, 3) of n 3", x.toldTerm(2, 3), -3);

        says("NONE: it is no whole number; -2: the DECK; -3: k is not 0 to n - 1.");
        x = with(FALSE_DECKS[0]);
        due("toldTerm(0, 0)", x.toldTerm(0, 0), 10001);
        due("toldTerm(0, 1)", x.toldTerm(0, 1), 10000);
        due("toldTerm(0, 2): -1 by 2", x.toldTerm(0, 2), NONE);
        due("toldTerm(0, 3): by 1", x.toldTerm(0, 3), 10000);
        due("toldTerm(0, 4): -3 ahead of NONE", x.toldTerm(0, 4), -3);
        bounds("toldTerm(0, k)", 0, 3, -3, (b, k) -> b.toldTerm(0, k));
        bounds("toldTerm(1, k)", 0, 1, -3, (b, k) -> b.toldTerm(1, k));
        decksOnly("toldTerm(deck, 0)", -2, (b, deck) -> b.toldTerm(deck, 0));
        refused("toldTerm(2, -1): the deck first", -2, b -> b.toldTerm(2, -1));
        refused("toldTerm(3, 9): the deck first", -2, b -> b.toldTerm(3, 9));
    }

    private void proved() {
        says("Whether all ANSWERS are of a CLASS (1), none is (0).");
        int[] ring = {1, 1, 0, 0, 1, 1};
        int[] tree = {1, 0, 1, 1, 0, 0};
        DeckBench x = dealt("net 0 5 01 12 23 34 04;");
        DeckBench y = dealt(UNEVEN_TREE);
        for (int what = 0; what < 6; what++) {
            due("proved(0, " + what + ") of a ring of 5", x.proved(0, what), ring[what]);
            due("proved(0, " + what + ") of a tree of 7", y.proved(0, what), tree[what]);
        }

        says("NONE: there are none, some are and some aren't; -2.");
        int[] two = {NONE, 1, NONE, 1, 0, 0};
        for (int what = 0; what < 6; what++) {
            due("proved(0, " + what + ") of n 2", withDeck(0, 0).proved(0, what), two[what]);
            for (String text : FALSE_DECKS) {
                due("proved(0, " + what + ") of '" + text + "'", with(text).proved(0, what), NONE);
            }
        }
        due("proved(0, 6) of a false deck: -2 ahead of NONE", with(FALSE_DECKS[3]).proved(0, 6), -2);
        due("proved(0, -1) of n 2: -2 ahead of NONE", withDeck(0, 0).proved(0, -1), -2);
        bounds("proved(0, what)", 0, 5, -2, (b, what) -> b.proved(0, what));
        bounds("proved(1, what)", 0, 5, -2, (b, what) -> b.proved(1, what));
        decksOnly("proved(deck, 0)", -2, (b, deck) -> b.proved(deck, 0));
    }

    private void reason() {
        says("1 TOLD LINES are no whole number (n 3 or more)");
        due("reason(0) of n 2", withDeck(0, 0).reason(0), 0);
        for (int ones = 0; ones <= 3; ones++) {
            due("reason(0) of n 3, " + ones + " lines", with("deck 0 3" + " card".repeat(3 - ones) + " card 01".repeat(ones)
                    + ";").reason(0), 0);
        }
        due("reason(0): 1 by 2", withDeck(0, 0, 0, 1).reason(0), 1);
        due("reason(0): 11 by 2", withDeck(7, 7, 7, 3).reason(0), 1);
        due("reason(0): 4 by 5", withDeck(manyCards(6, 0, 15)).reason(0), 1);
        due("reason(0): 6 by 5", withDeck(manyCards(6, 1, 0)).reason(0), 1);
        due("reason(0): 10 by 5, but 5 triples of two lines by 4", withDeck(0, 0, 3, 3, 3, 3, 3).reason(0), 3);

        says("2 a TOLD DEGREE is below 0, above n - 1 (n 3 or more)");
        due("reason(0): degrees 1 1 1 -1", withDeck(0, 0, 0, 3).reason(0), 2);
        due("reason(0): degrees 1 1 0 0", withDeck(0, 0, 1, 1).reason(0), 0);
        due("reason(0): degrees 4 2 1 1", withDeck(0, 3, 7, 7).reason(0), 2);
        due("reason(0): degrees 3 1 1 1", withDeck(0, 3, 3, 3).reason(0), 0);
        due("reason(0): degrees 3 2 1 0", withDeck(0, 1, 3, 7).reason(0), 4);
        due("reason(0): degrees 1 1 1 1 0 -1 -1", withDeck(manyCards(4, 0, 1, 3, 3)).reason(0), 2);
        // cards with 5 lines: stars of six; the net is a star of seven
        int star = withNet(6, 31 << 10).net(0, 3);
        due("reason(0): degrees 6 1 1 1 1 1 1", withDeck(manyCards(6, star, 0)).reason(0), 0);
        int starAndLine = withNet(6, (31 << 10) + 1).net(0, 3);
        due("reason(0): degrees 7 2 1 1 1 1 1", withDeck(manyCards(5, starAndLine, 0, star)).reason(0), 2);
        due("reason(0): degrees 18 3 3 3 3 3 3", withDeck(manyCards(6, EVERY_LINE_OF_6, 0)).reason(0), 2);
        due("reason(0): degrees 3 3 3 3 3 3 -12", withDeck(manyCards(6, 0, EVERY_LINE_OF_6)).reason(0), 2);

        says("3 for some NET of 3 NODES TOLD PARTS are no whole number (n 4 or more)");
        DeckBench x = with("net 0 3;net 1 3 01;net 2 3 01 02;net 3 3 01 02 12;" + FALSE_DECKS[2]);
        due("toldParts(0, 0)", x.toldParts(0, 0), NONE);
        due("toldParts(0, 1)", x.toldParts(0, 1), 3);
        due("toldParts(0, 2): 3 by 2", x.toldParts(0, 2), NONE);
        due("toldParts(0, 3)", x.toldParts(0, 3), 0);
        due("reason(0)", x.reason(0), 3);
        due("reason(0) of n 4, by 1: never 3", withDeck(0, 0, 7, 7).reason(0), 4);
        x = with("net 0 3;net 1 3 01;net 2 3 01 02;net 3 3 01 02 12;" + Tape.deck(0, new int[] {0, 1, 3, 7, 11}));
        due("toldParts(0, 0): 8 by 2", x.toldParts(0, 0), 4);
        due("toldParts(0, 1): 7 by 2", x.toldParts(0, 1), NONE);
        due("toldParts(0, 2): 4 by 2", x.toldParts(0, 2), 2);
        due("toldParts(0, 3): 1 by 2", x.toldParts(0, 3), NONE);
        due("reason(0): degrees 3 2 1 0 0", x.reason(0), 3);

        says("4 no NET has it. 0: it isn't FALSE.");
        for (int i = 0; i < 4; i++) {
            due("reason(0) of '" + FALSE_DECKS[i] + "'", with(FALSE_DECKS[i]).reason(0), i + 1);
        }
        due("reason(0) of all lines", withDeck(manyCards(7, EVERY_LINE_OF_6)).reason(0), 0);
        due("reason(0) of no line", withDeck(manyCards(7, 0)).reason(0), 0);
        due("reason(0) of a tree", dealt(UNEVEN_TREE).reason(0), 0);

        x = with(FALSE_DECKS[2] + "deck 1 5 card card card 01 23 card 02 13 card 03 12;" + "deck 2 5"
                + " card 01 02 03 12 13 23".repeat(5) + ";");
        due("reason(0)", x.reason(0), 3);
        due("reason(1), behind another", x.reason(1), 4);
        due("reason(2), behind another", x.reason(2), 0);
        due("reason(0), again", x.reason(0), 3);

        says("REASON why a DECK is FALSE, the first");
        due("reason(0): 1 and 3", withDeck(0, 0, 0, 0, 3).reason(0), 1);
        due("reason(0): 2 and 3", with("deck 0 5 card card card card card 01 02 03;").reason(0), 2);

        says("REASON. -2.");
        decksOnly("reason(deck)", -2, (b, deck) -> b.reason(deck));
    }

    private void answers() {
        says("ANSWERS: how many (k NONE), FORM of the k-th (from 0 on).");
        DeckBench x = withDeck(0, 0);
        due("answers(0, NONE) of n 2", x.answers(0, NONE), 2);
        due("answers(0, 0) of n 2: the least first", x.answers(0, 0), 0);
        due("answers(0, 1) of n 2", x.answers(0, 1), 1);
        due("answers(0, 2) of n 2", x.answers(0, 2), NONE);
        x = dealt(UNEVEN_TREE);
        due("answers(0, NONE) of a tree", x.answers(0, NONE), 1);
        due("answers(0, 0) of a tree", x.answers(0, 0), x.net(0, 3));
        x = withDeck(manyCards(7, EVERY_LINE_OF_6));
        due("answers(0, 0) of all lines", x.answers(0, 0), EVERY_LINE_OF_7);

        says("NONE: not so many; -2; -3: k is below NONE.");
        for (String text : FALSE_DECKS) {
            x = with(text);
            due("answers(0, NONE) of '" + text + "'", x.answers(0, NONE), 0);
            due("answers(0, 0) of '" + text + "'", x.answers(0, 0), NONE);
            due("answers(0, MAX) of '" + text + "'", x.answers(0, MAX), NONE);
            due("answers(0, -2) of '" + text + "': -3 ahead of NONE", x.answers(0, -2), -3);
        }
        due("answers(0, 1)", busy().answers(0, 1), NONE);
        due("answers(0, MAX)", busy().answers(0, MAX), NONE);
        refused("answers(0, -2)", -3, b -> b.answers(0, -2));
        refused("answers(0, MIN)", -3, b -> b.answers(0, MIN));
        refused("answers(2, -2): the deck first", -2, b -> b.answers(2, -2));
        decksOnly("answers(deck, NONE)", -2, (b, deck) -> b.answers(deck, NONE));
        decksOnly("answers(deck, 0)", -2, (b, deck) -> b.answers(deck, 0));
    }

    private void mends() {
        says("How many unlike DECKS of FALSE 0 there are, that have all CARDS of a DECK but one told (each as often).");
        for (int ones = 0; ones <= 3; ones++) {
            DeckBench x = with("deck 0 3" + " card".repeat(3 - ones) + " card 01".repeat(ones) + ";");
            for (int card = 0; card < 3; card++) {
                due("mends(0, " + card + ") of n 3, " + ones + " lines", x.mends(0, card), 2);
            }
        }
        DeckBench x = withDeck(0, 0, 0, 1);
        due("mends(0, 3): of three cards without lines only one deck", x.mends(0, 3), 1);
        due("mends(0, 0): 0 0 1, one line's alone", x.mends(0, 0), 1);
        x = withDeck(0, 7, 7, 7);
        due("mends(0, 3): no net has 0 7 7", x.mends(0, 3), 0);
        due("mends(0, 0): 7 7 7, all lines", x.mends(0, 0), 1);
        x = withDeck(0, 0, 0, 0, 1);
        due("mends(0, 4) of n 5", x.mends(0, 4), 1);
        due("mends(0, 0) of n 5: no net has 0 0 0 1", x.mends(0, 0), 0);
        x = withDeck(63, 63, 63, 63, 63);
        due("mends(0, 0) of n 5, all lines", x.mends(0, 0), 1);

        says("-2; -5: n isn't 3, 4, 5.");
        int[] wrongSizes = {2, 6, 7};
        for (int n : wrongSizes) {
            x = withDeck(manyCards(n, 0));
            due("mends(0, 0) of n " + n, x.mends(0, 0), -5);
            due("mends(0, last) of n " + n, x.mends(0, n - 1), -5);
            due("mends(0, n) of n " + n + ": the card first", x.mends(0, n), -2);
            due("mends(0, -1) of n " + n + ": the card first", x.mends(0, -1), -2);
        }
        bounds("mends(0, card)", 0, 3, -2, (b, card) -> b.mends(0, card));
        refused("mends(1, 0): n is 2", -5, b -> b.mends(1, 0));
        refused("mends(1, 2): the card first", -2, b -> b.mends(1, 2));
        decksOnly("mends(deck, 0)", -2, (b, deck) -> b.mends(deck, 0));
    }

    private void count() {
        says("0 ACTS that can be UNDONE");
        DeckBench x = new DeckBench();
        due("count(0) at first", x.count(0), 0);
        for (int acts = 1; acts <= 12; acts++) {
            x.put(0, 1);
            due("count(0) behind " + acts, x.count(0), Math.min(acts, 10));
        }
        x.undo();
        due("count(0) behind undo()", x.count(0), 9);

        says("1 bytes on THE TAPE");
        due("count(1) at first", x.count(1), 0);
        for (int feeds = 1; feeds <= 31; feeds++) {
            x.feed(0, 0, 0, 0, 0);
            due("count(1) behind " + feeds + " feeds", x.count(1), Math.min(600, 20 * feeds));
        }
        x.tell(0);
        due("count(1) behind tell(0)", x.count(1), 0);

        says("2 SLOTS with NODES");
        for (int slot = 0; slot < 6; slot++) {
            due("count(2) ahead of slot " + slot, x.count(2), slot);
            x.grow(slot, 0);
        }
        due("count(2): all", x.count(2), 6);
        x.drop(0, 0);
        due("count(2) behind drop()", x.count(2), 5);

        says("3 DECKS that are there");
        x.grow(1, 1);
        for (int deck = 0; deck < 3; deck++) {
            due("count(3) ahead of deck " + deck, x.count(3), deck);
            x.deal(1, deck);
        }
        due("count(3): all", x.count(3), 3);
        x.undo();
        due("count(3) behind undo()", x.count(3), 2);

        says("10 and n (0 to 5) how many NETS of n NODES there are, none ALIKE.");
        int[] nets = {1, 1, 2, 4, 11, 34};
        for (int n = 0; n <= 5; n++) {
            due("count(" + (10 + n) + ")", x.count(10 + n), nets[n]);
        }

        says("NONE for others.");
        int[] others = {-1, -2, 4, 5, 6, 7, 8, 9, 16, 17, 20, MIN, MIN + 10, MAX};
        for (int what : others) {
            due("count(" + what + ")", x.count(what), NONE);
        }
    }

    @Override
    void all() {
        decks();
        card();
        common();
        told();
        degree();
        toldParts();
        toldTerm();
        proved();
        reason();
        answers();
        mends();
        count();
    }

    public static void main(String[] args) {
        new DeckSentenceTest().run();
    }
}
