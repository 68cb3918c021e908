/** Each promise by hand: ordinary inputs, the edges that the document names, wrong inputs. */
public final class PromiseTest {
    private static final int MIN = Integer.MIN_VALUE;
    private static final int MAX = Integer.MAX_VALUE;

    private int wrong = 0;
    private int promise;

    private void due(String call, int got, int want) {
        if (got != want) {
            wrong++;
            System.out.println("promise " + promise + ": " + call + " answered " + got + ", due is " + want);
        }
    }

    /** A new object that was told a text. */
    private DeckBench with(String text) {
        DeckBench bench = new DeckBench();
        int lines = text.length() - text.replace(";", "").length();
        due("tell '" + text + "'", Tape.tell(bench, text), lines);
        return bench;
    }

    /** A net of 4 nodes in slot 0 (a path), a star in 1, a triangle in 2, two nodes in 3, one line in 4, slot 5 empty. */
    private DeckBench usual() {
        return with("net 0 4 01 12 23;net 1 4 01 02 03;net 2 3 01 12 02;net 3 2;net 4 2 01;");
    }

    private void newObject() {
        promise = 1;
        DeckBench x = new DeckBench();
        for (int slot = 0; slot < 6; slot++) {
            due("net(slot, 0)", x.net(slot, 0), 0);
            due("net(slot, 2)", x.net(slot, 2), 0);
        }
        for (int deck = 0; deck < 3; deck++) {
            due("card(deck, NONE)", x.card(deck, -1), -1);
        }
        due("NONE", DeckBench.NONE, -1);
    }

    private void feed() {
        promise = 2;
        DeckBench x = new DeckBench();
        for (int i = 1; i <= 30; i++) {
            due("feed", x.feed(0x20202020, 0x20202020, 0x20202020, 0x20202020, 0x20202020), 20 * i);
        }
        due("feed of 620", x.feed(0, 0, 0, 0, 0), -4);
        due("count(1)", x.count(1), 600);
        due("tell(600)", x.tell(600), 0);
        // bytes of each int: the highest first ("net 5 1;" and blanks)
        due("feed", x.feed(0x6e657420, 0x3520313b, 0x20202020, 0x20202020, 0x202020ff), 20);
        due("tell(19)", x.tell(19), 1);
        due("net(5, 0)", x.net(5, 0), 1);
        x.feed(0x6e657420, 0x3520313b, 0x20202020, 0x20202020, 0x202020ff);
        due("tell(20)", x.tell(20), -31);
        due("fault(1)", x.fault(1), 19);
    }

    private void tell() {
        promise = 3;
        DeckBench x = usual();
        x.deal(0, 0);
        due("count(1)", x.count(1), 0);
        Tape.feed(x, "net 5 2 01;net 5 3 02;");
        due("tell(-1)", x.tell(-1), -3);
        due("tell(41)", x.tell(41), -3);
        due("tell(MIN)", x.tell(MIN), -3);
        due("tell(MAX)", x.tell(MAX), -3);
        due("count(1), THE TAPE stays", x.count(1), 40);
        due("tell(11), only the first line", x.tell(11), 1);
        due("count(1)", x.count(1), 0);
        due("net(5, 0)", x.net(5, 0), 2);
        due("count(2): others are empty again", x.count(2), 1);
        due("count(3): decks are none again", x.count(3), 0);
        due("count(0): acts are forgotten", x.count(0), 0);
        due("tell of one slot twice", Tape.tell(x, "net 5 2 01;net 5 3 02;"), 2);
        due("net(5, 2)", x.net(5, 2), 2);
        due("net(5, 0)", x.net(5, 0), 3);
        due("deck told twice", Tape.tell(x, "deck 1 2 card card;deck 1 3 card 01card card 01;"), 2);
        due("card(1, NONE)", x.card(1, -1), 3);
        due("card(1, 0)", x.card(1, 0), 0);
        due("card(1, 2)", x.card(1, 2), 1);
        x.grow(0, 0);
        due("a fault", Tape.tell(x, "net 0 5;net 6 1;"), -32);
        due("net(0, 0) stays", x.net(0, 0), 1);
        due("card(1, NONE) stays", x.card(1, -1), 3);
        due("count(0) stays", x.count(0), 1);
        due("count(1): empty", x.count(1), 0);
        Tape.feed(x, "net 5 2 01;");
        due("tell(0)", x.tell(0), 0);
        due("count(1)", x.count(1), 0);
        due("count(2)", x.count(2), 0);
        due("count(3)", x.count(3), 0);
        due("undo()", x.undo(), -5);
    }

    private void fault() {
        promise = 4;
        DeckBench x = new DeckBench();
        due("fault(0) ahead of any", x.fault(0), 0);
        due("fault(1) ahead of any", x.fault(1), -1);
        Tape.tell(x, "net 0 3 01 10;");
        due("fault(0)", x.fault(0), 3);
        due("fault(1)", x.fault(1), 11);
        due("fault(2)", x.fault(2), -1);
        due("fault(-1)", x.fault(-1), -1);
        due("fault(MIN)", x.fault(MIN), -1);
        x.tell(1);
        due("fault(0), a tell() that emptied nothing", x.fault(0), 3);
        x.tell(0);
        due("fault(0) of no byte", x.fault(0), 0);
        due("fault(1) of no byte", x.fault(1), -1);
    }

    private void join() {
        promise = 5;
        DeckBench x = usual();
        due("join(0, 0, 3)", x.join(0, 0, 3), 4);
        due("net(0, 2)", x.net(0, 2), 1 + 4 + 8 + 32);
        due("join(0, 3, 0)", x.join(0, 3, 0), 3);
        due("join(3, 1, 0)", x.join(3, 1, 0), 1);
        due("join(0, 1, 1)", x.join(0, 1, 1), -2);
        due("join(0, 0, 4)", x.join(0, 0, 4), -2);
        due("join(0, -1, 0)", x.join(0, -1, 0), -2);
        due("join(6, 0, 1)", x.join(6, 0, 1), -2);
        due("join(-1, 0, 1)", x.join(-1, 0, 1), -2);
        due("join(5, 0, 0)", x.join(5, 0, 0), -2);
        due("count(0)", x.count(0), 3);
    }

    private void grow() {
        promise = 6;
        DeckBench x = new DeckBench();
        due("grow(0, 1): no such node yet", x.grow(0, 1), -3);
        for (int n = 0; n < 7; n++) {
            due("grow(0, all)", x.grow(0, (1 << n) - 1), n + 1);
        }
        due("net(0, 2): all lines", x.net(0, 2), (1 << 21) - 1);
        due("grow(0, 0)", x.grow(0, 0), -4);
        due("grow(0, 127)", x.grow(0, 127), -4);
        due("grow(0, 128): the number first", x.grow(0, 128), -3);
        due("grow(0, -1)", x.grow(0, -1), -3);
        due("grow(1, MIN)", x.grow(1, MIN), -3);
        due("grow(6, 0)", x.grow(6, 0), -2);
        due("grow(-1, -1): the slot first", x.grow(-1, -1), -2);
        x = usual();
        due("grow(0, 5)", x.grow(0, 5), 5);
        due("node(0, 4, 1)", x.node(0, 4, 1), 5);
        due("net(0, 2)", x.net(0, 2), 37 + (5 << 6));
    }

    private void drop() {
        promise = 7;
        DeckBench x = usual();
        due("drop(0, 1)", x.drop(0, 1), 3);
        due("net(0, 2): the line 23 is 12 now", x.net(0, 2), 4);
        due("drop(0, 3)", x.drop(0, 3), -2);
        due("drop(0, -1)", x.drop(0, -1), -2);
        due("drop(5, 0)", x.drop(5, 0), -2);
        due("drop(6, 0)", x.drop(6, 0), -2);
        due("drop(3, 0)", x.drop(3, 0), 1);
        due("drop(3, 0)", x.drop(3, 0), 0);
        due("drop(3, 0)", x.drop(3, 0), -2);
    }

    private void turn() {
        promise = 8;
        DeckBench x = usual();
        due("turn(1, 5)", x.turn(1, 5), 3);
        due("net(5, 2): 12, 13, 23", x.net(5, 2), 4 + 16 + 32);
        due("net(1, 1) stays", x.net(1, 1), 3);
        due("turn(2, 2)", x.turn(2, 2), 0);
        due("turn(2, 2)", x.turn(2, 2), 3);
        due("turn(6, 0)", x.turn(6, 0), -2);
        due("turn(0, -1)", x.turn(0, -1), -2);
        due("turn(3, 0)", x.turn(3, 0), 1);
        due("net(0, 0)", x.net(0, 0), 2);
    }

    private void put() {
        promise = 9;
        DeckBench x = usual();
        due("put(0, 5)", x.put(0, 5), 4);
        due("net(5, 2)", x.net(5, 2), 13);
        due("net(0, 2) stays", x.net(0, 2), 37);
        due("put(0, 0)", x.put(0, 0), 4);
        due("net(0, 2)", x.net(0, 2), 13);
        due("put(0, 6)", x.put(0, 6), -2);
        due("put(-1, 0)", x.put(-1, 0), -2);
        x.tell(0);
        due("put of no nodes", x.put(5, 0), 0);
        due("count(0): an act though all is as it was", x.count(0), 1);
    }

    private void deal() {
        promise = 10;
        DeckBench x = usual();
        due("deal(0, 0)", x.deal(0, 0), 2);
        due("card(0, 1)", x.card(0, 1), 1);
        due("card(0, 2)", x.card(0, 2), 3);
        due("deal(2, 0)", x.deal(2, 0), 1);
        due("card(0, NONE)", x.card(0, -1), 3);
        due("deal(4, 2)", x.deal(4, 2), 1);
        due("deal(5, 0)", x.deal(5, 0), -5);
        due("deal(5, 3): the deck first", x.deal(5, 3), -2);
        due("deal(6, 0)", x.deal(6, 0), -2);
        due("deal(0, -1)", x.deal(0, -1), -2);
        x.drop(4, 0);
        due("deal of one node", x.deal(4, 0), -5);
        due("card(0, NONE) stays", x.card(0, -1), 3);
    }

    private void replace() {
        promise = 11;
        DeckBench x = usual();
        x.deal(0, 0);
        due("replace(0, 3, 2): 1 1 3 7", x.replace(0, 3, 2), 3);
        due("replace(0, 0, 2): 1 3 7 7, the first of like ones", x.replace(0, 0, 2), 2);
        due("card(0, 0)", x.card(0, 0), 1);
        due("card(0, 1)", x.card(0, 1), 3);
        due("replace(0, 0, 3)", x.replace(0, 0, 3), -5);
        due("replace(0, 4, 3): the card first", x.replace(0, 4, 3), -2);
        due("replace(0, -1, 2)", x.replace(0, -1, 2), -2);
        due("replace(1, 0, 2): a deck that is none", x.replace(1, 0, 2), -2);
        due("replace(3, 0, 2)", x.replace(3, 0, 2), -2);
        due("replace(0, 0, 6)", x.replace(0, 0, 6), -2);
        due("count(0)", x.count(0), 3);
    }

    private void solve() {
        promise = 12;
        DeckBench x = usual();
        x.deal(0, 0);
        due("solve(0, 5)", x.solve(0, 5), 3);
        due("net(5, 2)", x.net(5, 2), 13);
        x.deal(4, 1);
        due("solve(1, 5): of two answers the first", x.solve(1, 5), 0);
        due("net(5, 0)", x.net(5, 0), 2);
        due("solve(2, 5)", x.solve(2, 5), -2);
        due("solve(3, 5)", x.solve(3, 5), -2);
        due("solve(0, 6)", x.solve(0, 6), -2);
        x.replace(0, 0, 2);
        x.replace(0, 0, 2);
        x.replace(0, 0, 2);
        due("solve of a false deck", x.solve(0, 5), -5);
        due("solve of a false deck, the slot first", x.solve(0, -1), -2);
        due("net(5, 0) stays", x.net(5, 0), 2);
    }

    private void undo() {
        promise = 13;
        DeckBench x = usual();
        due("undo()", x.undo(), -5);
        for (int i = 0; i < 12; i++) {
            x.join(0, 0, 3);
        }
        due("count(0)", x.count(0), 10);
        x.join(0, 0, 0);
        due("count(0): refused calls are no acts", x.count(0), 10);
        for (int i = 9; i >= 0; i--) {
            due("undo()", x.undo(), i);
        }
        due("undo()", x.undo(), -5);
        due("net(0, 1)", x.net(0, 1), 3);
        x.deal(0, 1);
        x.replace(1, 0, 2);
        x.drop(0, 0);
        x.turn(0, 0);
        x.put(2, 0);
        x.grow(0, 3);
        x.deal(2, 1);
        x.solve(1, 5);
        due("undo() of solve", x.undo(), 7);
        due("net(5, 0)", x.net(5, 0), 0);
        due("undo() of deal", x.undo(), 6);
        due("card(1, 3)", x.card(1, 3), 7);
        due("undo() of grow", x.undo(), 5);
        due("net(0, 0)", x.net(0, 0), 3);
        due("undo() of put", x.undo(), 4);
        due("net(0, 2)", x.net(0, 2), 2);
        due("undo() of turn", x.undo(), 3);
        due("net(0, 2)", x.net(0, 2), 5);
        due("undo() of drop", x.undo(), 2);
        due("net(0, 2)", x.net(0, 2), 37);
        due("undo() of replace", x.undo(), 1);
        due("card(1, 0)", x.card(1, 0), 1);
        due("card(1, 3)", x.card(1, 3), 3);
        due("undo() of deal", x.undo(), 0);
        due("card(1, NONE)", x.card(1, -1), -1);
    }

    private void net() {
        promise = 14;
        DeckBench x = usual();
        int[] path = {4, 3, 37, 13, 2, 1, 2, 0};
        int[] star = {4, 3, 11, 11, 6, 1, 2, 0};
        int[] apart = {2, 0, 0, 0, 2, 2, 1, 0};
        int[] empty = {0, 0, 0, 0, 1, 0, 0, 0};
        for (int what = 0; what < 8; what++) {
            due("net(0, " + what + ")", x.net(0, what), path[what]);
            due("net(1, " + what + ")", x.net(1, what), star[what]);
            due("net(3, " + what + ")", x.net(3, what), apart[what]);
            due("net(5, " + what + ")", x.net(5, what), empty[what]);
        }
        due("net(0, 8)", x.net(0, 8), -2);
        due("net(0, -1)", x.net(0, -1), -2);
        due("net(6, 0)", x.net(6, 0), -2);
        due("net(MIN, 0)", x.net(MIN, 0), -2);
        x = with("net 0 7;net 1 7 01 12 23 34 45 56 06;");
        due("symmetries of no lines", x.net(0, 4), 5040);
        due("symmetries of a ring", x.net(1, 4), 14);
        due("orbits of a ring", x.net(1, 6), 1);
    }

    /** No net of so few nodes has twins (the least that have some have 8): all nets are looked through. */
    private void twins() {
        promise = 14;
        for (int n = 0; n <= 7; n++) {
            for (int form : DeckModel.classes(n)) {
                due("net(2, 7) of form " + form, with(Tape.net(2, n, form)).net(2, 7), 0);
            }
        }
    }

    private void node() {
        promise = 15;
        DeckBench x = usual();
        due("node(0, 1, 0)", x.node(0, 1, 0), 2);
        due("node(0, 1, 1)", x.node(0, 1, 1), 5);
        due("node(0, 3, 2)", x.node(0, 3, 2), 0);
        due("node(0, 2, 2)", x.node(0, 2, 2), 1);
        due("node(0, 1, 3)", x.node(0, 1, 3), 1);
        due("node(1, 0, 3)", x.node(1, 0, 3), 0);
        due("node(1, 3, 2)", x.node(1, 3, 2), 1);
        due("node(0, 4, 0)", x.node(0, 4, 0), -2);
        due("node(0, -1, 0)", x.node(0, -1, 0), -2);
        due("node(0, 0, 4)", x.node(0, 0, 4), -2);
        due("node(0, 0, -1)", x.node(0, 0, -1), -2);
        due("node(5, 0, 0)", x.node(5, 0, 0), -2);
        due("node(6, 0, 0)", x.node(6, 0, 0), -2);
        x.drop(3, 0);
        due("node(3, 0, 3): n is 1", x.node(3, 0, 3), -1);
        due("node(3, 0, 4): the code ahead of NONE", x.node(3, 0, 4), -2);
        due("node(3, 0, 2)", x.node(3, 0, 2), 0);
    }

    private void alike() {
        promise = 16;
        DeckBench x = with("net 0 4 01 12 23;net 1 4 02 03 13;net 2 4 01 02 03;net 3 3;net 4 4;");
        due("alike(0, 1)", x.alike(0, 1), 1);
        due("alike(0, 2)", x.alike(0, 2), 0);
        due("alike(3, 4): other n", x.alike(3, 4), 0);
        due("alike(2, 2)", x.alike(2, 2), 1);
        due("alike(6, 0)", x.alike(6, 0), -2);
        due("alike(0, -1)", x.alike(0, -1), -2);
    }

    private void parts() {
        promise = 17;
        DeckBench x = usual();
        due("parts(4, 0)", x.parts(4, 0), 3);
        due("parts(3, 0)", x.parts(3, 0), 3);
        due("parts(4, 2)", x.parts(4, 2), 3);
        due("parts(2, 0)", x.parts(2, 0), 0);
        due("parts(0, 0)", x.parts(0, 0), 1);
        due("parts(0, 2): p is larger", x.parts(0, 2), 0);
        due("parts(5, 0): of no nodes", x.parts(5, 0), 1);
        due("parts(5, 5)", x.parts(5, 5), 1);
        due("parts(6, 0)", x.parts(6, 0), -2);
        due("parts(0, 6)", x.parts(0, 6), -2);
    }

    private void least() {
        promise = 18;
        DeckBench x = usual();
        due("least(0, 0)", x.least(0, 0), 4);
        due("least(0, 1)", x.least(0, 1), 4);
        due("least(1, 0)", x.least(1, 0), 3);
        due("least(1, 1)", x.least(1, 1), 4);
        due("least(2, 0)", x.least(2, 0), 3);
        due("least(3, 0)", x.least(3, 0), -5);
        due("least(3, 2): what first", x.least(3, 2), -2);
        due("least(0, 2)", x.least(0, 2), -2);
        due("least(0, -1)", x.least(0, -1), -2);
        due("least(6, 0)", x.least(6, 0), -2);
        x.grow(0, 8);
        due("least of a path of 5", x.least(0, 0), 3);
        x.grow(0, 16);
        due("least of 6 nodes", x.least(0, 0), -5);
    }

    private void rivals() {
        promise = 19;
        DeckBench x = usual();
        due("rivals(0)", x.rivals(0), 0);
        due("rivals(1): a triangle and a node", x.rivals(1), 1);
        due("rivals(3): no lines", x.rivals(3), 0);
        due("rivals(5)", x.rivals(5), -5);
        due("rivals(6)", x.rivals(6), -2);
        x.grow(1, 0);
        due("rivals of 5 nodes", x.rivals(1), 1);
        x.grow(1, 0);
        due("rivals of 6 nodes", x.rivals(1), -5);
    }

    private void lineDeck() {
        promise = 20;
        DeckBench x = usual();
        due("lineDeck(0, NONE)", x.lineDeck(0, -1), 2);
        due("lineDeck(0, 0)", x.lineDeck(0, 0), 3);
        due("lineDeck(0, 1)", x.lineDeck(0, 1), 3);
        due("lineDeck(0, 2)", x.lineDeck(0, 2), 12);
        due("lineDeck(0, 3)", x.lineDeck(0, 3), -1);
        due("lineDeck(0, MAX)", x.lineDeck(0, MAX), -1);
        due("lineDeck(0, -2)", x.lineDeck(0, -2), -3);
        due("lineDeck(0, MIN)", x.lineDeck(0, MIN), -3);
        due("lineDeck(6, -2): the slot first", x.lineDeck(6, -2), -2);
        due("lineDeck(3, NONE): no lines", x.lineDeck(3, -1), 0);
        due("lineDeck(3, 0)", x.lineDeck(3, 0), -1);
        due("lineDeck(5, NONE)", x.lineDeck(5, -1), 0);
    }

    private void is() {
        promise = 21;
        DeckBench x = usual();
        int[] path = {1, 0, 1, 1, 0, 1};
        int[] triangle = {1, 1, 0, 0, 1, 0};
        int[] apart = {0, 1, 0, 1, 0, 0};
        int[] one = {1, 1, 1, 1, 0, 1};
        x.drop(4, 0);
        for (int what = 0; what < 6; what++) {
            due("is(0, " + what + ")", x.is(0, what), path[what]);
            due("is(2, " + what + ")", x.is(2, what), triangle[what]);
            due("is(3, " + what + ")", x.is(3, what), apart[what]);
            due("is(4, " + what + ")", x.is(4, what), one[what]);
            due("is(5, " + what + ")", x.is(5, what), 0);
        }
        due("is(0, 6)", x.is(0, 6), -2);
        due("is(0, -1)", x.is(0, -1), -2);
        due("is(6, 0)", x.is(6, 0), -2);
        due("is(5, 6): no nodes, no such class", x.is(5, 6), -2);
    }

    private void trees() {
        promise = 22;
        DeckBench x = usual();
        due("trees(0)", x.trees(0), 1);
        due("trees(2)", x.trees(2), 3);
        due("trees(3): apart", x.trees(3), 0);
        due("trees(5): no nodes", x.trees(5), 0);
        due("trees(6)", x.trees(6), -2);
        x.drop(3, 0);
        due("trees of one node", x.trees(3), 1);
        for (int n = 0; n < 7; n++) {
            x.grow(5, (1 << n) - 1);
        }
        due("trees of 7 nodes all joined: 7 to the power of 5", x.trees(5), 16807);
    }

    private void term() {
        promise = 23;
        DeckBench x = usual();
        int[] path = {10001, 10000, 9997, 10000, 10001};
        for (int k = 0; k < 5; k++) {
            due("term(0, " + k + ")", x.term(0, k), path[k]);
        }
        due("term(2, 3): twice the triangles, taken away", x.term(2, 3), 9998);
        due("term(0, 5)", x.term(0, 5), -3);
        due("term(0, -1)", x.term(0, -1), -3);
        due("term(5, 0)", x.term(5, 0), 10001);
        due("term(5, 1)", x.term(5, 1), -3);
        due("term(6, 9): the slot first", x.term(6, 9), -2);
    }

    private void far() {
        promise = 24;
        DeckBench x = usual();
        due("far(0, 0, 3)", x.far(0, 0, 3), 3);
        due("far(0, 3, 1)", x.far(0, 3, 1), 2);
        due("far(0, 2, 2)", x.far(0, 2, 2), 0);
        due("far(1, 1, 3)", x.far(1, 1, 3), 2);
        due("far(3, 0, 1)", x.far(3, 0, 1), -1);
        due("far(0, 0, 4)", x.far(0, 0, 4), -2);
        due("far(0, -1, 0)", x.far(0, -1, 0), -2);
        due("far(6, 0, 0)", x.far(6, 0, 0), -2);
        due("far(5, 0, 0)", x.far(5, 0, 0), -2);
        x = with("net 0 7 01 12 23 34 45 56;");
        due("far through all nodes", x.far(0, 6, 0), 6);
    }

    private void card() {
        promise = 25;
        DeckBench x = usual();
        due("card(0, NONE): none", x.card(0, -1), -1);
        due("card(0, 0): none", x.card(0, 0), -2);
        due("card(3, NONE)", x.card(3, -1), -2);
        due("card(-1, NONE)", x.card(-1, -1), -2);
        x.deal(0, 0);
        due("card(0, NONE)", x.card(0, -1), 4);
        due("card(0, 3)", x.card(0, 3), 3);
        due("card(0, 4)", x.card(0, 4), -2);
        due("card(0, -2)", x.card(0, -2), -2);
        due("card(0, MIN)", x.card(0, MIN), -2);
    }

    private void common() {
        promise = 26;
        DeckBench x = usual();
        x.deal(0, 0);
        x.deal(1, 1);
        due("common(0, 1): 1 1 3 3, 0 3 3 3", x.common(0, 1), 2);
        due("common(0, 0)", x.common(0, 0), 4);
        due("common(0, 2): none", x.common(0, 2), -2);
        due("common(3, 0)", x.common(3, 0), -2);
        due("common(0, -1)", x.common(0, -1), -2);
        x = with("deck 0 3 card card card;deck 1 4 card card card card;deck 2 2 card card;");
        due("cards of other n aren't alike", x.common(0, 1), 0);
        due("cards of other n aren't alike", x.common(2, 1), 0);
    }

    private void told() {
        promise = 27;
        DeckBench x = usual();
        int[] path = {3, 102, 101, 0, 2};
        int[] triangle = {3, 102, 102, 1, 3};
        int[] two = {-1, -1, -1, -1, 2};
        x.deal(0, 0);
        x.deal(2, 1);
        x.deal(4, 2);
        for (int what = 0; what < 5; what++) {
            due("told(0, " + what + ")", x.told(0, what), path[what]);
            due("told(1, " + what + ")", x.told(1, what), triangle[what]);
            due("told(2, " + what + ")", x.told(2, what), two[what]);
        }
        due("told(0, 5)", x.told(0, 5), -2);
        due("told(0, -1)", x.told(0, -1), -2);
        due("told(2, 5): the code ahead of NONE", x.told(2, 5), -2);
        due("told(3, 0)", x.told(3, 0), -2);
        x = with("deck 0 4 card card card card 01;deck 1 7 card card card card card card"
                + " card 01 02 03 04 05 12 13 14 15 23 24 25 34 35 45;");
        due("told(0, 0): no whole number", x.told(0, 0), -1);
        due("told(0, 3)", x.told(0, 3), -1);
        due("told(0, 4)", x.told(0, 4), 0);
        due("told(1, 0)", x.told(1, 0), 3);
        due("told(1, 1)", x.told(1, 1), 103);
        due("told(1, 2): 12 below 0", x.told(1, 2), 88);
        due("told(2, 0): none", x.told(2, 0), -2);
    }

    private void degree() {
        promise = 28;
        DeckBench x = usual();
        x.deal(1, 0);
        due("degree(0, 0)", x.degree(0, 0), 103);
        due("degree(0, 3)", x.degree(0, 3), 101);
        due("degree(0, 4)", x.degree(0, 4), -2);
        due("degree(0, -1)", x.degree(0, -1), -2);
        due("degree(1, 0): none", x.degree(1, 0), -2);
        due("degree(3, 0)", x.degree(3, 0), -2);
        x.deal(3, 1);
        due("degree(1, 1): n is 2", x.degree(1, 1), -1);
        due("degree(1, 2): the code ahead of NONE", x.degree(1, 2), -2);
        x.replace(0, 0, 2);
        x.replace(0, 0, 2);
        due("degree(0, 0) of 3 3 7 7", x.degree(0, 0), 103);
        x.replace(0, 0, 2);
        due("degree(0, 0) of 3 7 7 7: no whole number", x.degree(0, 0), -1);
    }

    private void toldParts() {
        promise = 29;
        DeckBench x = usual();
        x.deal(0, 0);
        due("toldParts(0, 4): lines", x.toldParts(0, 4), 3);
        due("toldParts(0, 3)", x.toldParts(0, 3), 3);
        due("toldParts(0, 2): n - 1 nodes", x.toldParts(0, 2), 0);
        due("toldParts(0, 0): n nodes", x.toldParts(0, 0), -5);
        due("toldParts(0, 5): no nodes", x.toldParts(0, 5), -5);
        due("toldParts(0, 6)", x.toldParts(0, 6), -2);
        due("toldParts(1, 5): none", x.toldParts(1, 5), -2);
        due("toldParts(3, 0)", x.toldParts(3, 0), -2);
        x.drop(3, 0);
        due("toldParts of one node", x.toldParts(0, 3), 4);
        x.deal(4, 1);
        due("toldParts(1, 3): n is 2", x.toldParts(1, 3), -5);
        x = with("net 0 2 01;deck 0 4 card card card card 01;");
        due("toldParts(0, 0): no whole number", x.toldParts(0, 0), -1);
    }

    private void toldTerm() {
        promise = 30;
        DeckBench x = usual();
        x.deal(0, 0);
        int[] path = {10001, 10000, 9997, 10000};
        for (int k = 0; k < 4; k++) {
            due("toldTerm(0, " + k + ")", x.toldTerm(0, k), path[k]);
        }
        due("toldTerm(0, 4)", x.toldTerm(0, 4), -3);
        due("toldTerm(0, -1)", x.toldTerm(0, -1), -3);
        due("toldTerm(1, -1): the deck first", x.toldTerm(1, -1), -2);
        due("toldTerm(3, 0)", x.toldTerm(3, 0), -2);
        x.deal(4, 1);
        due("toldTerm(1, 0): n is 2", x.toldTerm(1, 0), 10001);
        due("toldTerm(1, 1)", x.toldTerm(1, 1), 10000);
        x = with("deck 0 4 card card card card 01;");
        due("toldTerm(0, 2): no whole number", x.toldTerm(0, 2), -1);
    }

    private void proved() {
        promise = 31;
        DeckBench x = usual();
        x.deal(0, 0);
        int[] path = {1, 0, 1, 1, 0, 1};
        for (int what = 0; what < 6; what++) {
            due("proved(0, " + what + ")", x.proved(0, what), path[what]);
        }
        due("proved(0, 6)", x.proved(0, 6), -2);
        due("proved(0, -1)", x.proved(0, -1), -2);
        due("proved(1, 0): none", x.proved(1, 0), -2);
        due("proved(3, 0)", x.proved(3, 0), -2);
        x.deal(4, 1);
        due("proved(1, 0): one of two is", x.proved(1, 0), -1);
        due("proved(1, 1): both are", x.proved(1, 1), 1);
        due("proved(1, 4): none is", x.proved(1, 4), 0);
        x = with("deck 0 4 card card card card 01;");
        due("proved(0, 0): no answers", x.proved(0, 0), -1);
        due("proved(0, 6)", x.proved(0, 6), -2);
    }

    private void reason() {
        promise = 32;
        DeckBench x = with("deck 0 4 card card card card 01;deck 1 4 card card card 01 card 01;deck 2 3 card card card 01;");
        due("reason(0): 1 by 2", x.reason(0), 1);
        due("reason(1): 2 by 2", x.reason(1), 0);
        due("reason(2)", x.reason(2), 0);
        due("reason(3)", x.reason(3), -2);
        due("reason(-1)", x.reason(-1), -2);
        x = with("deck 0 5 card card card card card 01 02 03;deck 1 4 card card 01 02 12 card 01 02 12card;"
                + "deck 2 7 card card card card card card card 01 12 23 34 45;");
        due("reason(0): 3 by 3 is 1, 1 less 3 is below 0", x.reason(0), 2);
        due("reason(1): 3 lines, degrees 3 3 0 0", x.reason(1), 4);
        due("reason(2): 5 by 5 is 1, 1 less 5 is below 0", x.reason(2), 2);
        x = with("deck 0 5 card card card 01 02 card 01 12 card 13 23;deck 1 5 card card card 01 23 card 02 13 card 03 12;"
                + "deck 2 5 card 01card 01card 01card 01 23card 03 12;");
        due("reason(0): 2 lines, degrees 2 2 0 0 0, but 3 triples of two lines by 2", x.reason(0), 3);
        due("reason(1): 2 lines, degrees 2 2 0 0 0, 12 triples of one line, 8 of none", x.reason(1), 4);
        due("reason(2): 7 by 3", x.reason(2), 1);
        x.tell(0);
        due("reason(0): none", x.reason(0), -2);
    }

    private void answers() {
        promise = 33;
        DeckBench x = usual();
        x.deal(0, 0);
        due("answers(0, NONE)", x.answers(0, -1), 1);
        due("answers(0, 0)", x.answers(0, 0), 13);
        due("answers(0, 1)", x.answers(0, 1), -1);
        due("answers(0, MAX)", x.answers(0, MAX), -1);
        due("answers(0, -2)", x.answers(0, -2), -3);
        due("answers(1, -2): the deck first", x.answers(1, -2), -2);
        due("answers(3, 0)", x.answers(3, 0), -2);
        x.deal(3, 2);
        due("answers(2, NONE)", x.answers(2, -1), 2);
        due("answers(2, 0)", x.answers(2, 0), 0);
        due("answers(2, 1)", x.answers(2, 1), 1);
        due("answers(2, 2)", x.answers(2, 2), -1);
        x = with("deck 0 4 card card card card 01;");
        due("answers(0, NONE)", x.answers(0, -1), 0);
        due("answers(0, 0)", x.answers(0, 0), -1);
    }

    private void mends() {
        promise = 34;
        DeckBench x = usual();
        x.deal(0, 0);
        due("mends(0, 3)", x.mends(0, 3), 2);
        due("mends(0, 0)", x.mends(0, 0), 2);
        due("mends(0, 4)", x.mends(0, 4), -2);
        due("mends(0, -1)", x.mends(0, -1), -2);
        due("mends(1, 0): none", x.mends(1, 0), -2);
        due("mends(3, 0)", x.mends(3, 0), -2);
        x.deal(3, 1);
        due("mends(1, 0): n is 2", x.mends(1, 0), -5);
        due("mends(1, 2): the card first", x.mends(1, 2), -2);
        x.grow(0, 0);
        x.grow(0, 0);
        x.deal(0, 1);
        due("mends(1, 0): n is 6", x.mends(1, 0), -5);
        x.deal(2, 1);
        due("mends(1, 0) of a triangle: 0 1 1, 1 1 1", x.mends(1, 0), 2);
    }

    private void count() {
        promise = 35;
        DeckBench x = usual();
        Tape.feed(x, "net");
        x.deal(0, 1);
        due("count(0)", x.count(0), 1);
        due("count(1)", x.count(1), 20);
        due("count(2)", x.count(2), 5);
        due("count(3)", x.count(3), 1);
        int[] nets = {1, 1, 2, 4, 11, 34};
        for (int n = 0; n < 6; n++) {
            due("count(10 + n)", x.count(10 + n), nets[n]);
        }
        int[] others = {-1, 4, 5, 9, 16, 17, MIN, MAX};
        for (int what : others) {
            due("count(" + what + ")", x.count(what), -1);
        }
    }

    private void all() {
        newObject();
        feed();
        tell();
        fault();
        join();
        grow();
        drop();
        turn();
        put();
        deal();
        replace();
        solve();
        undo();
        net();
        twins();
        node();
        alike();
        parts();
        least();
        rivals();
        lineDeck();
        is();
        trees();
        term();
        far();
        card();
        common();
        told();
        degree();
        toldParts();
        toldTerm();
        proved();
        reason();
        answers();
        mends();
        count();
    }

    public static void main(String[] args) {
        PromiseTest test = new PromiseTest();
        test.all();
        System.out.println(test.wrong == 0 ? "all promises are kept" : test.wrong + " answers are not as due");
        if (test.wrong != 0) {
            System.exit(1);
        }
    }
}
