import java.util.Arrays;

/** The document's sentences on what is done by hand (promises 5 to 13), each by itself. */
public final class HandSentenceTest extends Sentences {
    private void join() {
        says("Two NODES of a SLOT are JOINED, or are no more, if they were: how many LINES there are.");
        DeckBench x = withNet(2, 0);
        due("join(0, 0, 1): the first line", x.join(0, 0, 1), 1);
        due("join(0, 1, 0): none is left", x.join(0, 1, 0), 0);
        due("net(0, 2)", x.net(0, 2), 0);
        x = withNet(7, EVERY_LINE_OF_7 - (1 << 20));
        due("join(0, 6, 5): the last line", x.join(0, 6, 5), 21);
        due("net(0, 2)", x.net(0, 2), EVERY_LINE_OF_7);
        due("join(0, 0, 1)", x.join(0, 0, 1), 20);
        due("net(0, 2)", x.net(0, 2), EVERY_LINE_OF_7 - 1);

        says("-2 (one NODE with itself, too).");
        bounds("join(slot, 0, 1)", 0, 5, -2, (b, slot) -> b.join(slot, 0, 1));
        bounds("join(0, a, 1)", 0, 3, -2, (b, a) -> b.join(0, a, 1));
        bounds("join(0, 1, b)", 0, 3, -2, (b, other) -> b.join(0, 1, other));
        bounds("join(1, a, 3)", 0, 6, -2, (b, a) -> b.join(1, a, 3));
        for (int node = 0; node < 4; node++) {
            int same = node;
            refused("join(0, " + node + ", " + node + ")", -2, b -> b.join(0, same, same));
        }
        refused("join of a slot with one node", -2, b -> b.join(3, 0, 1));
        refused("join of that node with itself", -2, b -> b.join(3, 0, 0));
        refused("join of an empty slot", -2, b -> b.join(4, 0, 1));
        refused("join of an empty slot", -2, b -> b.join(4, 0, 0));
    }

    private void grow() {
        says("A NODE comes behind all, JOINED with NODES as bits: n.");
        DeckBench x = new DeckBench();
        int code = 0;
        for (int n = 0; n < 7; n++) {
            due("grow to " + (n + 1), x.grow(5, (1 << n) - 1), n + 1);
            code |= (1 << n) - 1 << n * (n - 1) / 2;
            due("net(5, 2)", x.net(5, 2), code);
        }
        x = new DeckBench();
        for (int n = 0; n < 7; n++) {
            due("grow with no line to " + (n + 1), x.grow(0, 0), n + 1);
        }
        due("net(0, 1)", x.net(0, 1), 0);
        x = withNet(6, 0);
        due("grow(0, 32): joined with the last", x.grow(0, 32), 7);
        due("net(0, 2)", x.net(0, 2), 1 << 20);

        says("-2: the SLOT; -3: bits of others; -4: n is 7.");
        bounds("grow(slot, 0)", 0, 5, -2, (b, slot) -> b.grow(slot, 0));
        bounds("grow(0, bits)", 0, 15, -3, (b, bits) -> b.grow(0, bits));
        bounds("grow(4, bits): no nodes", 0, 0, -3, (b, bits) -> b.grow(4, bits));
        bounds("grow(3, bits): one node", 0, 1, -3, (b, bits) -> b.grow(3, bits));
        refused("grow(0, 16): the next bit alone", -3, b -> b.grow(0, 16));
        refused("grow(1, 0)", -4, b -> b.grow(1, 0));
        refused("grow(1, 127)", -4, b -> b.grow(1, 127));
        refused("grow(1, 128): bits of others first", -3, b -> b.grow(1, 128));
        refused("grow(1, -1)", -3, b -> b.grow(1, -1));
        refused("grow(6, -1): the slot first", -2, b -> b.grow(6, -1));
    }

    private void drop() {
        says("A NODE goes (those behind it are one less): n.");
        DeckBench x = withNet(4, 37);
        due("drop(0, 0): the first", x.drop(0, 0), 3);
        due("net(0, 2): 12, 23 are 01, 12", x.net(0, 2), 1 + 4);
        x = withNet(4, 37);
        due("drop(0, 3): the last", x.drop(0, 3), 3);
        due("net(0, 2): 01, 12", x.net(0, 2), 1 + 4);
        x = withNet(4, 37);
        due("drop(0, 2)", x.drop(0, 2), 3);
        due("net(0, 2): 01", x.net(0, 2), 1);
        x = withNet(7, EVERY_LINE_OF_7);
        for (int n = 6; n >= 0; n--) {
            due("drop to " + n, x.drop(0, 0), n);
            due("net(0, 2)", x.net(0, 2), (1 << n * (n - 1) / 2) - 1);
        }
        due("drop of an empty slot", x.drop(0, 0), -2);
        due("count(0)", x.count(0), 7);

        says("A NODE goes (those behind it are one less): n. -2.");
        bounds("drop(slot, 0)", 0, 5, -2, (b, slot) -> b.drop(slot, 0));
        bounds("drop(0, node)", 0, 3, -2, (b, node) -> b.drop(0, node));
        bounds("drop(1, node)", 0, 6, -2, (b, node) -> b.drop(1, node));
        bounds("drop(3, node)", 0, 0, -2, (b, node) -> b.drop(3, node));
        refused("drop(4, 0): no nodes", -2, b -> b.drop(4, 0));
    }

    private void turn() {
        says("A SLOT (to) becomes that of one with just the LINES it has not: how many LINES.");
        DeckBench x = withNet(7, EVERY_LINE_OF_7);
        due("turn(0, 5) of all lines", x.turn(0, 5), 0);
        due("net(5, 0)", x.net(5, 0), 7);
        due("net(0, 1): that one stays", x.net(0, 1), 21);
        due("turn(5, 5) of no lines, to itself", x.turn(5, 5), 21);
        due("net(5, 2)", x.net(5, 2), EVERY_LINE_OF_7);
        due("turn(1, 5): no nodes", x.turn(1, 5), 0);
        due("net(5, 0)", x.net(5, 0), 0);
        x = withNet(1, 0);
        due("turn(0, 0): one node", x.turn(0, 0), 0);
        due("net(0, 0)", x.net(0, 0), 1);
        due("count(0): an act though all is as it was", x.count(0), 1);

        says("A SLOT (to) becomes that of one with just the LINES it has not: how many LINES. -2.");
        bounds("turn(slot, 2)", 0, 5, -2, (b, slot) -> b.turn(slot, 2));
        bounds("turn(2, to)", 0, 5, -2, (b, to) -> b.turn(2, to));
    }

    private void put() {
        says("A SLOT (to) becomes what another one is, numbered by FORM (CODE is FORM): n.");
        DeckBench x = withNet(7, 1 << 20);
        due("put(0, 5)", x.put(0, 5), 7);
        due("net(5, 2): the line 56 is 01", x.net(5, 2), 1);
        due("net(0, 2): that one stays", x.net(0, 2), 1 << 20);
        due("put(0, 0): to itself", x.put(0, 0), 7);
        due("net(0, 2)", x.net(0, 2), 1);
        due("put(1, 5): no nodes", x.put(1, 5), 0);
        due("net(5, 0)", x.net(5, 0), 0);
        x = withNet(7, EVERY_LINE_OF_7 - 1);
        due("put(0, 1)", x.put(0, 1), 7);
        due("net(1, 2): of all lines the last is missing", x.net(1, 2), EVERY_LINE_OF_7 - (1 << 20));

        says("A SLOT (to) becomes what another one is, numbered by FORM (CODE is FORM): n. -2.");
        bounds("put(slot, 2)", 0, 5, -2, (b, slot) -> b.put(slot, 2));
        bounds("put(2, to)", 0, 5, -2, (b, to) -> b.put(2, to));
    }

    private void deal() {
        says("A DECK becomes that of a SLOT: how many unlike CARDS.");
        DeckBench x = withNet(2, 1);
        due("deal of two nodes", x.deal(0, 2), 1);
        due("card(2, NONE)", x.card(2, NONE), 2);
        due("card(2, 1)", x.card(2, 1), 0);
        x = withNet(7, EVERY_LINE_OF_7);
        due("deal of 7 nodes", x.deal(0, 0), 1);
        due("card(0, NONE)", x.card(0, NONE), 7);
        due("card(0, 6)", x.card(0, 6), EVERY_LINE_OF_6);
        // a node with legs of 1, 2 and 3 nodes: no two nodes are of one orbit
        x = with("net 0 7 01 02 23 04 45 56;");
        due("deal of a net with unlike cards alone", x.deal(0, 0), 7);
        due("deal again", x.deal(0, 0), 7);
        due("count(0): an act though all is as it was", x.count(0), 2);

        says("-2; -5: it has fewer than 2 NODES.");
        bounds("deal(slot, 0)", 0, 5, -2, (b, slot) -> b.deal(slot, 0));
        bounds("deal(0, deck)", 0, 2, -2, (b, deck) -> b.deal(0, deck));
        refused("deal(3, 0): one node", -5, b -> b.deal(3, 0));
        refused("deal(4, 0): no nodes", -5, b -> b.deal(4, 0));
        refused("deal(3, 3): the deck first", -2, b -> b.deal(3, 3));
        refused("deal(4, -1): the deck first", -2, b -> b.deal(4, -1));
    }

    private void replace() {
        says("A CARD of a DECK becomes what a SLOT is: which CARD it is then (of like ones the first).");
        DeckBench x = with("net 0 3 01 02 12;net 1 3;net 2 3 02;deck 0 4 card 01 card 01 card 01 card 01;");
        due("replace(0, 0, 0): 1 1 1 7", x.replace(0, 0, 0), 3);
        due("replace(0, 0, 0): 1 1 7 7", x.replace(0, 0, 0), 2);
        due("replace(0, 3, 1): 0 1 1 7", x.replace(0, 3, 1), 0);
        due("replace(0, 2, 2): 0 1 1 7, as it was", x.replace(0, 2, 2), 1);
        due("count(0): an act though all is as it was", x.count(0), 4);
        due("replace(0, 3, 2): 0 1 1 1", x.replace(0, 3, 2), 1);
        int[] cards = {0, 1, 1, 1};
        for (int card = 0; card < 4; card++) {
            due("card(0, " + card + ")", x.card(0, card), cards[card]);
        }
        x = with("net 0 1;net 1 6 45;deck 0 2 card card;deck 1 7 card card card card card card card;");
        due("replace(0, 1, 0): n 2", x.replace(0, 1, 0), 0);
        due("replace(1, 0, 1): n 7", x.replace(1, 0, 1), 6);
        due("card(1, 6): told by its form", x.card(1, 6), 1);

        says("-2; -5: that has not n - 1 NODES.");
        bounds("replace(0, card, 2)", 0, 3, -2, (b, card) -> b.replace(0, card, 2));
        bounds("replace(1, card, 3)", 0, 1, -2, (b, card) -> b.replace(1, card, 3));
        int[] wrongDecks = {-1, 2, 3, MIN, MAX};
        for (int deck : wrongDecks) {
            refused("replace(" + deck + ", 0, 2)", -2, b -> b.replace(deck, 0, 2));
        }
        int[] wrongSlots = {-1, 6, MIN, MAX};
        for (int slot : wrongSlots) {
            refused("replace(0, 0, " + slot + ")", -2, b -> b.replace(0, 0, slot));
        }
        refused("replace(0, 0, 0): n nodes", -5, b -> b.replace(0, 0, 0));
        refused("replace(0, 0, 3): one node", -5, b -> b.replace(0, 0, 3));
        refused("replace(0, 0, 4): no nodes", -5, b -> b.replace(0, 0, 4));
        refused("replace(0, 0, 5): n + 1 nodes", -5, b -> b.replace(0, 0, 5));
        refused("replace(1, 1, 4): no nodes, n - 1 is 1", -5, b -> b.replace(1, 1, 4));
        refused("replace(1, 1, 2): 3 nodes, n is 2", -5, b -> b.replace(1, 1, 2));
        refused("replace(0, 4, 0): the card first", -2, b -> b.replace(0, 4, 0));
        refused("replace(2, 0, 0): the deck first", -2, b -> b.replace(2, 0, 0));
    }

    private void solve() {
        says("A SLOT becomes the first of ANSWERS of a DECK, numbered by FORM: how many LINES.");
        DeckBench x = with("net 0 7 01 02 23 04 45 56;deck 1 2 card card;deck 2 3 card 01 card 01 card 01;net 3 5 01;");
        due("solve(1, 3): n 2, of two answers the first", x.solve(1, 3), 0);
        due("net(3, 0)", x.net(3, 0), 2);
        due("solve(2, 3): n 3", x.solve(2, 3), 3);
        due("net(3, 2)", x.net(3, 2), 7);
        due("deal(0, 0)", x.deal(0, 0), 7);
        due("solve(0, 3): n 7", x.solve(0, 3), 6);
        due("net(3, 2) is the form", x.net(3, 2), x.net(0, 3));
        due("alike(0, 3)", x.alike(0, 3), 1);
        int acts = x.count(0);
        due("solve(0, 3) again", x.solve(0, 3), 6);
        due("count(0): an act though all is as it was", x.count(0), acts + 1);
        x = withNet(7, EVERY_LINE_OF_7);
        x.deal(0, 0);
        due("solve(0, 0) of all lines", x.solve(0, 0), 21);

        says("-2; -5: there is none.");
        bounds("solve(0, slot)", 0, 5, -2, (b, slot) -> b.solve(0, slot));
        bounds("solve(deck, 4)", 0, 1, -2, (b, deck) -> b.solve(deck, 4));
        refused("solve(3, 4)", -2, b -> b.solve(3, 4));
        String[] falseDecks = {"deck 2 4 card card card card 01;", "deck 2 4 card card card card 01 12;",
            "deck 2 5 card card card 01 02 card 01 12 card 13 23;", "deck 2 4 card card 01 02 12 card 01 02 12card;"};
        for (int i = 0; i < 4; i++) {
            x = with("net 0 3 01;" + falseDecks[i]);
            due("reason(2)", x.reason(2), i + 1);
            x.join(0, 0, 1);
            due("solve of a false deck", x.solve(2, 0), -5);
            due("solve of a false deck, the slot first", x.solve(2, 6), -2);
            due("net(0, 0) stays", x.net(0, 0), 3);
            due("net(0, 2) stays", x.net(0, 2), 0);
            due("count(0) stays", x.count(0), 1);
            due("undo()", x.undo(), 0);
            due("net(0, 2)", x.net(0, 2), 1);
        }
    }

    /** Makes some acts, all of them unlike, and undoes as many as it can: each gives back the code ahead of it. */
    private void undoAll(int acts) {
        DeckBench x = withNet(7, 0);
        int[] codes = new int[acts + 1];
        for (int i = 0; i < acts; i++) {
            codes[i] = x.net(0, 2);
            x.join(0, i % 6, 6);
            due("count(0) behind act " + (i + 1), x.count(0), Math.min(10, i + 1));
        }
        int left = Math.min(10, acts);
        for (int i = acts - 1; left > 0; i--) {
            left--;
            due("undo() of act " + (i + 1) + " of " + acts, x.undo(), left);
            due("net(0, 2)", x.net(0, 2), codes[i]);
        }
        int code = x.net(0, 2);
        due("undo() once more", x.undo(), -5);
        due("net(0, 2) stays", x.net(0, 2), code);
        due("count(0) stays", x.count(0), 0);
    }

    private void undo() {
        says("The latest ACT is UNDONE: how many still can be. -5: none can.");
        for (int acts = 0; acts <= 33; acts++) {
            undoAll(acts);
        }
        due("undo() of a new object", new DeckBench().undo(), -5);
        DeckBench told = with("net 0 3 01;");
        due("undo() behind a text", told.undo(), -5);
        due("net(0, 2) stays", told.net(0, 2), 1);

        says("the latest 10 can be UNDONE (tell() that is taken forgets them).");
        DeckBench x = withNet(7, 0);
        for (int i = 0; i < 25; i++) {
            x.join(0, 0, 1 + i % 6);
        }
        for (int i = 9; i >= 6; i--) {
            due("undo()", x.undo(), i);
        }
        int code = x.net(0, 2);
        x.join(0, 5, 6);
        x.join(0, 4, 6);
        due("count(0): four undone, two more", x.count(0), 8);
        due("undo()", x.undo(), 7);
        due("undo()", x.undo(), 6);
        due("net(0, 2)", x.net(0, 2), code);
        x.tell(1);
        due("count(0): a tell() refused by -3 forgets none", x.count(0), 6);
        Tape.tell(x, "net");
        due("count(0): a text with a fault forgets none", x.count(0), 6);
        due("undo()", x.undo(), 5);
        due("tell(0)", x.tell(0), 0);
        due("count(0): a text of no byte forgets them", x.count(0), 0);
        due("undo()", x.undo(), -5);
        due("grow(0, 0)", x.grow(0, 0), 1);
        due("undo()", x.undo(), 0);
        due("net(0, 0)", x.net(0, 0), 0);

        says("ACTS: join(), grow(), drop(), turn(), put(), deal(), replace(), solve() that aren't refused");
        undoesItself("join", b -> b.join(0, 0, 3));
        undoesItself("grow", b -> b.grow(5, 31));
        undoesItself("grow of one node", b -> b.grow(4, 1));
        undoesItself("drop", b -> b.drop(1, 0));
        undoesItself("drop to none", b -> b.drop(3, 0));
        undoesItself("turn", b -> b.turn(1, 0));
        undoesItself("turn to itself", b -> b.turn(5, 5));
        undoesItself("put", b -> b.put(4, 1));
        undoesItself("put to itself", b -> b.put(0, 0));
        undoesItself("deal", b -> b.deal(1, 0));
        undoesItself("deal where none is", b -> b.deal(2, 2));
        undoesItself("replace", b -> b.replace(0, 0, 2));
        undoesItself("solve", b -> b.solve(0, 1));

        says("(even if all is as it was)");
        int[] codes = {0, 1};
        for (int again : codes) {
            x = withNet(2, again);
            x.put(0, 0);
            x.put(1, 2);
            x.turn(3, 4);
            x.deal(0, 0);
            x.deal(0, 0);
            x.solve(0, 5);
            x.solve(0, 5);
            due("count(0)", x.count(0), 7);
        }
        says("The latest ACT is UNDONE: how many still can be. -5: none can.");
        DeckBench undone = busy();
        int[] counts = new int[11];
        for (int i = 0; i < 11; i++) {
            counts[i] = undone.undo();
        }
        if (!Arrays.equals(counts, new int[] {9, 8, 7, 6, 5, 4, 3, 2, 1, 0, -5})) {
            due("undo() eleven times: " + Arrays.toString(counts), 0, 1);
        }
    }

    /** An act counts, and undone it leaves slots, decks and tape as if it had never been, but for the oldest act. */
    private void undoesItself(String name, Call act) {
        DeckBench bench = busy();
        due(name + ": undo() ahead, to make room", bench.undo(), 9);
        act.on(bench);
        due("count(0) behind " + name, bench.count(0), 10);
        due("undo() of " + name, bench.undo(), 9);
        DeckBench untouched = busy();
        untouched.undo();
        sameActs(name, bench, untouched);
        sameTape(name, bench, untouched);
    }

    @Override
    void all() {
        join();
        grow();
        drop();
        turn();
        put();
        deal();
        replace();
        solve();
        undo();
    }

    public static void main(String[] args) {
        new HandSentenceTest().run();
    }
}
