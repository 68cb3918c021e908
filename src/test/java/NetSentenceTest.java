/** The document's sentences on nets (Terms, promises 14 to 24), each by itself. */
public final class NetSentenceTest extends Sentences {
    private static final String RING_OF_7 = "net 0 7 01 12 23 34 45 56 06;";
    /** A node with legs of 1, 2 and 3 nodes, told as slot 0: no symmetry but that which leaves all. */
    private static final String UNEVEN_TREE = "net 0 7 01 02 23 04 45 56;";

    private void rowIs(DeckBench bench, int... want) {
        for (int what = 0; what < want.length; what++) {
            due("net(0, " + what + ")", bench.net(0, what), want[what]);
        }
    }

    private void net() {
        says("A NET has NODES 0 .. n - 1 (n 0 to 7), some couples of them JOINED by a LINE.");
        rowIs(withNet(0, 0), 0, 0, 0, 0, 1, 0, 0, 0);
        rowIs(withNet(1, 0), 1, 0, 0, 0, 1, 1, 1, 0);
        rowIs(withNet(2, 0), 2, 0, 0, 0, 2, 2, 1, 0);
        rowIs(withNet(2, 1), 2, 1, 1, 1, 2, 1, 1, 0);
        rowIs(withNet(7, 0), 7, 0, 0, 0, 5040, 7, 1, 0);
        rowIs(withNet(7, EVERY_LINE_OF_7), 7, 21, EVERY_LINE_OF_7, EVERY_LINE_OF_7, 5040, 1, 1, 0);

        says("CODE: for each LINE (a, b), a less than b, 2 to the power of b (b - 1) / 2 + a, added.");
        int bit = 0;
        for (int b = 1; b < 7; b++) {
            for (int a = 0; a < b; a++) {
                due("net(0, 2) of " + a + b, with("net 0 7 " + a + b + ";").net(0, 2), 1 << bit);
                due("net(0, 2) of " + b + a, with("net 0 7 " + b + a + ";").net(0, 2), 1 << bit);
                bit++;
            }
        }

        says("FORM: the least CODE by all numberings of its NODES.");
        due("net(0, 3) of 56", withNet(7, 1 << 20).net(0, 3), 1);
        due("net(0, 3) of all lines but 01", withNet(7, EVERY_LINE_OF_7 - 1).net(0, 3), EVERY_LINE_OF_7 - (1 << 20));
        due("net(0, 3) of 12 in three nodes", withNet(3, 4).net(0, 3), 1);
        due("net(0, 3) of 02, 12 in three nodes", withNet(3, 6).net(0, 3), 3);

        says("A SYMMETRY: a numbering by which CODE stays.");
        due("of an uneven tree: one", with(UNEVEN_TREE).net(0, 4), 1);
        due("of a ring of 7", with(RING_OF_7).net(0, 4), 14);
        due("of a star of 7", with("net 0 7 01 02 03 04 05 06;").net(0, 4), 720);

        says("ORBIT of a NODE: NODES to which some SYMMETRY takes it.");
        due("orbits of an uneven tree: each node one", with(UNEVEN_TREE).net(0, 6), 7);
        due("orbits of a ring: one", with(RING_OF_7).net(0, 6), 1);
        due("orbits of a star", with("net 0 7 01 02 03 04 05 06;").net(0, 6), 2);

        says("PIECES: NODES that hang together by LINES.");
        due("of 3, 2, 1 and 1 nodes", with("net 0 7 06 63 15;").net(0, 5), 4);

        says("7 TWINS (0 below two NODES). -2.");
        due("net(0, 7) of no nodes", withNet(0, 0).net(0, 7), 0);
        due("net(0, 7) of one node", withNet(1, 0).net(0, 7), 0);
        due("net(0, 7) of two nodes", withNet(2, 1).net(0, 7), 0);
        // nodes of one degree with unlike cards, nodes of one orbit: no twins
        due("net(0, 7) of an uneven tree", with(UNEVEN_TREE).net(0, 7), 0);
        due("net(0, 7) of a path of 7", with("net 0 7 01 12 23 34 45 56;").net(0, 7), 0);
        due("net(0, 7) of a ring and a node", with("net 0 7 01 12 23 34 45 05;").net(0, 7), 0);
        bounds("net(slot, 0)", 0, 5, -2, (b, slot) -> b.net(slot, 0));
        bounds("net(0, what)", 0, 7, -2, (b, what) -> b.net(0, what));
        bounds("net(4, what): no nodes", 0, 7, -2, (b, what) -> b.net(4, what));
    }

    private void node() {
        says("Of a NODE, what 0 DEGREE, 1 NODES it is JOINED with (bits), 2 the least NODE of its ORBIT, 3 FORM of its CARD");
        DeckBench x = withNet(7, EVERY_LINE_OF_7);
        due("node(0, 0, 0)", x.node(0, 0, 0), 6);
        due("node(0, 0, 1)", x.node(0, 0, 1), 126);
        due("node(0, 6, 1)", x.node(0, 6, 1), 63);
        due("node(0, 6, 2)", x.node(0, 6, 2), 0);
        due("node(0, 6, 3)", x.node(0, 6, 3), EVERY_LINE_OF_6);
        x = withNet(7, 0);
        due("node(0, 6, 0): no line", x.node(0, 6, 0), 0);
        due("node(0, 6, 1): no line", x.node(0, 6, 1), 0);
        due("node(0, 6, 3): no line", x.node(0, 6, 3), 0);
        x = with(UNEVEN_TREE);
        for (int v = 0; v < 7; v++) {
            due("node(0, " + v + ", 2)", x.node(0, v, 2), v);
        }
        due("node(0, 0, 3): pieces of 1, 2 and 3 nodes", x.node(0, 0, 3), with("net 0 6 12 34 45;").net(0, 3));

        says("(NONE: n is 1). -2.");
        x = with("net 0 1;net 1 2 01;");
        due("node(0, 0, 0)", x.node(0, 0, 0), 0);
        due("node(0, 0, 1)", x.node(0, 0, 1), 0);
        due("node(0, 0, 2)", x.node(0, 0, 2), 0);
        due("node(0, 0, 3): n is 1", x.node(0, 0, 3), NONE);
        due("node(1, 0, 3): n is 2", x.node(1, 0, 3), 0);
        due("node(1, 1, 3): n is 2", x.node(1, 1, 3), 0);
        due("node(0, 0, 4): -2 ahead of NONE", x.node(0, 0, 4), -2);
        due("node(0, 1, 3): -2 ahead of NONE", x.node(0, 1, 3), -2);
        bounds("node(slot, 0, 0)", 0, 5, -2, (b, slot) -> b.node(slot, 0, 0));
        bounds("node(0, node, 0)", 0, 3, -2, (b, node) -> b.node(0, node, 0));
        bounds("node(1, node, 0)", 0, 6, -2, (b, node) -> b.node(1, node, 0));
        bounds("node(0, 0, what)", 0, 3, -2, (b, what) -> b.node(0, 0, what));
        refused("node(4, 0, 0): no nodes", -2, b -> b.node(4, 0, 0));
    }

    private void alike() {
        says("Two NETS are ALIKE, if n and FORM are.");
        DeckBench x = with("net 0 3;net 1 4;net 2 7 01 12;net 3 7 56 60;net 4 7 01 23;");
        due("alike(0, 1): n is not", x.alike(0, 1), 0);
        due("alike(5, 0): no nodes, n is not", x.alike(5, 0), 0);
        due("alike(5, 5): no nodes both", x.alike(5, 5), 1);
        due("alike(2, 3)", x.alike(2, 3), 1);
        due("alike(2, 4): as many lines, but another form", x.alike(2, 4), 0);
        due("alike(0, 0): one slot", x.alike(0, 0), 1);
        x = with("net 0 1;");
        due("alike(0, 1): one node, none", x.alike(0, 1), 0);

        says("Whether two SLOTS are ALIKE: 1, else 0. -2.");
        bounds("alike(one, 0)", 0, 5, -2, (b, one) -> b.alike(one, 0));
        bounds("alike(0, other)", 0, 5, -2, (b, other) -> b.alike(0, other));
    }

    private void parts() {
        says("PARTS of a SLOT p in a SLOT (of no NODES 1). -2.");
        DeckBench x = with("net 0 7;net 1 1;net 2 3;net 3 4;net 4 2 01;");
        for (int slot = 0; slot < 6; slot++) {
            due("parts(5, " + slot + "): of no nodes", x.parts(5, slot), 1);
        }
        due("parts(1, 0): nodes", x.parts(1, 0), 7);
        due("parts(2, 0): three of seven", x.parts(2, 0), 35);
        due("parts(3, 0): four of seven", x.parts(3, 0), 35);
        due("parts(0, 0): as many nodes", x.parts(0, 0), 1);
        due("parts(0, 3): p is larger", x.parts(0, 3), 0);
        due("parts(1, 5): in no nodes", x.parts(1, 5), 0);
        due("parts(4, 0): no such", x.parts(4, 0), 0);
        due("parts(4, 4)", x.parts(4, 4), 1);
        x = with(Tape.net(0, 7, EVERY_LINE_OF_7) + "net 1 2 01;net 2 7;");
        due("parts(1, 0): lines", x.parts(1, 0), 21);
        due("parts(2, 0): as many nodes, not alike", x.parts(2, 0), 0);
        bounds("parts(p, 0)", 0, 5, -2, (b, p) -> b.parts(p, 0));
        bounds("parts(2, slot)", 0, 5, -2, (b, slot) -> b.parts(2, slot));
    }

    private void least() {
        says("LEAST: how many CARDS can TELL it at least; SURE: the least number, of which any so many TELL it.");
        for (int code = 0; code < 8; code++) {
            DeckBench x = withNet(3, code);
            due("least(0, 0) of 3 nodes, code " + code, x.least(0, 0), 3);
            due("least(0, 1) of 3 nodes, code " + code, x.least(0, 1), 3);
        }
        int[] codes = {0, 63, 0, 1023};
        int[] sizes = {4, 4, 5, 5};
        for (int i = 0; i < 4; i++) {
            // no line (or all): the net of one line (or all but one) has two cards of it, not three
            DeckBench x = withNet(sizes[i], codes[i]);
            due("least(0, 0) of code " + codes[i], x.least(0, 0), 3);
            due("least(0, 1) of code " + codes[i], x.least(0, 1), 3);
        }

        due("least(0, 1) of a path of 3, asked first", withNet(3, 3).least(0, 1), 3);
        due("least(0, 1) of no line in 5 nodes, asked first", withNet(5, 0).least(0, 1), 3);

        says("(each as often)");
        DeckBench x = withNet(4, 1);
        due("least(0, 0) of one line in 4 nodes, 0 0 1 1: 0 0 1 tell it", x.least(0, 0), 3);
        due("least(0, 1): 0 1 1 don't, two lines that meet have them", x.least(0, 1), 4);
        x = withNet(4, 37);
        due("least(0, 0) of a path of 4", x.least(0, 0), 4);
        due("least(0, 1) of a path of 4", x.least(0, 1), 4);

        says("LEAST (what 0), SURE (1). -2; -5: n isn't 3, 4, 5.");
        bounds("least(slot, 0)", 0, 5, -2, (b, slot) -> b.least(slot, 0));
        bounds("least(0, what)", 0, 1, -2, (b, what) -> b.least(0, what));
        int[] wrongSizes = {0, 1, 2, 6, 7};
        for (int n : wrongSizes) {
            DeckBench y = withNet(n, 0);
            due("least(0, 0) of " + n, y.least(0, 0), -5);
            due("least(0, 1) of " + n, y.least(0, 1), -5);
            due("least(0, 2) of " + n + ": what first", y.least(0, 2), -2);
            due("least(0, -1) of " + n + ": what first", y.least(0, -1), -2);
        }
        refused("least(1, 0): 7 nodes", -5, b -> b.least(1, 0));
        refused("least(3, 1): one node", -5, b -> b.least(3, 1));
        refused("least(4, 0): no nodes", -5, b -> b.least(4, 0));
        refused("least(4, 2): what first", -2, b -> b.least(4, 2));
    }

    private void rivals() {
        says("RIVALS: NETS not ALIKE, of n NODES, with the same LINE-DECK.");
        due("two nodes, no line", withNet(2, 0).rivals(0), 0);
        due("two nodes, one line", withNet(2, 1).rivals(0), 0);
        due("no line in 5 nodes", withNet(5, 0).rivals(0), 0);
        due("all lines of 5 nodes", withNet(5, 1023).rivals(0), 0);
        due("two lines apart, two that meet", with("net 0 4 01 23;").rivals(0), 1);
        due("two lines that meet, two apart", with("net 0 4 01 12;").rivals(0), 1);
        due("a star of three, a triangle", with("net 0 4 01 02 03;").rivals(0), 1);
        due("a triangle, a star of three", with("net 0 4 01 02 12;").rivals(0), 1);
        due("a triangle of three nodes: no room for a star", with("net 0 3 01 02 12;").rivals(0), 0);
        due("two lines of three nodes: no room for two apart", with("net 0 3 01 02;").rivals(0), 0);
        due("a triangle in 5 nodes", with("net 0 5 01 02 12;").rivals(0), 1);

        says("RIVALS. -2; -5: n isn't 2 to 5.");
        bounds("rivals(slot)", 0, 5, -2, (b, slot) -> b.rivals(slot));
        int[] wrongSizes = {0, 1, 6, 7};
        for (int n : wrongSizes) {
            due("rivals(0) of " + n, withNet(n, 0).rivals(0), -5);
        }
        refused("rivals(1): 7 nodes", -5, b -> b.rivals(1));
        refused("rivals(3): one node", -5, b -> b.rivals(3));
        refused("rivals(4): no nodes", -5, b -> b.rivals(4));
    }

    private void lineDeck() {
        says("The k-th (from 0 on) of the LINE-DECK; k NONE: how many unlike ones it has.");
        DeckBench x = withNet(7, EVERY_LINE_OF_7);
        due("lineDeck(0, NONE) of all lines", x.lineDeck(0, NONE), 1);
        due("lineDeck(0, 0)", x.lineDeck(0, 0), EVERY_LINE_OF_7 - (1 << 20));
        due("lineDeck(0, 20)", x.lineDeck(0, 20), EVERY_LINE_OF_7 - (1 << 20));
        due("lineDeck(0, 21)", x.lineDeck(0, 21), NONE);
        x = with(UNEVEN_TREE);
        due("lineDeck(0, NONE) of an uneven tree: all unlike", x.lineDeck(0, NONE), 6);
        for (int k = 1; k < 6; k++) {
            int behind = x.lineDeck(0, k) > x.lineDeck(0, k - 1) ? 1 : 0;
            due("lineDeck(0, " + k + ") is above the one ahead", behind, 1);
        }
        x = withNet(2, 1);
        due("lineDeck(0, NONE) of one line", x.lineDeck(0, NONE), 1);
        due("lineDeck(0, 0) of one line", x.lineDeck(0, 0), 0);
        due("lineDeck(0, 1) of one line", x.lineDeck(0, 1), NONE);

        says("NONE: not so many; -2; -3: k is below NONE.");
        for (int n = 0; n <= 7; n++) {
            x = withNet(n, 0);
            due("lineDeck(0, NONE) of no line", x.lineDeck(0, NONE), 0);
            due("lineDeck(0, 0) of no line", x.lineDeck(0, 0), NONE);
        }
        due("lineDeck(0, 2) of 3 lines", busy().lineDeck(0, 2), 12);
        due("lineDeck(0, 3) of 3 lines", busy().lineDeck(0, 3), NONE);
        due("lineDeck(0, MAX)", busy().lineDeck(0, MAX), NONE);
        refused("lineDeck(0, -2)", -3, b -> b.lineDeck(0, -2));
        refused("lineDeck(0, MIN)", -3, b -> b.lineDeck(0, MIN));
        refused("lineDeck(4, -2): no lines", -3, b -> b.lineDeck(4, -2));
        refused("lineDeck(6, -2): the slot first", -2, b -> b.lineDeck(6, -2));
        bounds("lineDeck(slot, 0)", 0, 5, -2, (b, slot) -> b.lineDeck(slot, 0));
        bounds("lineDeck(slot, NONE)", 0, 5, -2, (b, slot) -> b.lineDeck(slot, NONE));
    }

    private void classesAre(String text, int... want) {
        DeckBench x = with(text);
        for (int what = 0; what < 6; what++) {
            due("is(0, " + what + ") of '" + text + "'", x.is(0, what), want[what]);
        }
    }

    private void is() {
        says("CLASSES of NETS (n 1 or more; others are of none)");
        classesAre("net 0 0;", 0, 0, 0, 0, 0, 0);
        classesAre("net 0 1;", 1, 1, 1, 1, 0, 1);
        classesAre("net 0 2;", 0, 1, 0, 1, 0, 0);
        classesAre("net 0 2 01;", 1, 1, 1, 1, 0, 0);
        classesAre("net 0 7;", 0, 1, 0, 1, 0, 0);
        classesAre(Tape.net(0, 7, EVERY_LINE_OF_7), 1, 1, 0, 0, 1, 0);

        says("0 one PIECE; 1 all DEGREES alike; 2 one PIECE, n - 1 LINES");
        classesAre("net 0 4 01 02 12;", 0, 0, 0, 0, 0, 0);
        classesAre("net 0 4 01 02 12 03;", 1, 0, 0, 0, 0, 0);
        classesAre("net 0 4 01 23;", 0, 1, 0, 1, 0, 0);
        classesAre(UNEVEN_TREE, 1, 0, 1, 1, 0, 0);

        says("3 NODES can be put on two sides so that no LINE joins two of one side");
        classesAre("net 0 6 01 12 23 34 45 05;", 1, 1, 0, 1, 1, 0);
        classesAre(RING_OF_7, 1, 1, 0, 0, 1, 0);
        classesAre("net 0 7 03 04 05 06 13 14 15 16 23 24 25 26;", 1, 0, 0, 1, 0, 0);

        says("4 n 3 or more, a row of all NODES, each JOINED with the next one, the last with the first");
        classesAre("net 0 3 01 12;", 1, 0, 1, 1, 0, 0);
        classesAre("net 0 3 01 12 02;", 1, 1, 0, 0, 1, 0);
        classesAre("net 0 4 01 12 23 03;", 1, 1, 0, 1, 1, 0);
        classesAre("net 0 6 01 12 02 34 45 35;", 0, 1, 0, 0, 0, 0);
        classesAre("net 0 5 01 12 02 23 34 24;", 1, 0, 0, 0, 0, 0);

        says("5 ALIKE that with just the LINES it has not.");
        classesAre("net 0 4 01 12 23;", 1, 0, 1, 1, 0, 1);
        classesAre("net 0 5 01 12 23 34 04;", 1, 1, 0, 0, 1, 1);
        classesAre("net 0 5 01 12 02 03 14;", 1, 0, 0, 0, 0, 1);
        classesAre("net 0 4 01 02 03;", 1, 0, 1, 1, 0, 0);

        says("Whether it is of a CLASS (0 to 5): 1, else 0. -2.");
        DeckBench x = with(RING_OF_7 + "net 1 7 01 12 23 34 45 56;net 2 3 01 12;");
        for (int slot = 0; slot < 4; slot++) {
            due("is(" + slot + ", 4), one behind another", x.is(slot, 4), slot == 0 ? 1 : 0);
        }
        bounds("is(slot, 0)", 0, 5, -2, (b, slot) -> b.is(slot, 0));
        bounds("is(0, what)", 0, 5, -2, (b, what) -> b.is(0, what));
        bounds("is(4, what): no nodes", 0, 5, -2, (b, what) -> b.is(4, what));
    }

    private void trees() {
        says("TREES: sets of n - 1 LINES by which alone all NODES hang together (n 1: 1, n 0: 0).");
        due("n 0", withNet(0, 0).trees(0), 0);
        due("n 1", withNet(1, 0).trees(0), 1);
        due("n 2, apart", withNet(2, 0).trees(0), 0);
        due("n 2", withNet(2, 1).trees(0), 1);
        due("n 7, no line", withNet(7, 0).trees(0), 0);
        due("n 7, all lines: 7 to the power of 5", withNet(7, EVERY_LINE_OF_7).trees(0), 16807);
        due("n 7, all lines but one: 5 by 7 to the power of 4", withNet(7, EVERY_LINE_OF_7 - 1).trees(0), 12005);
        due("a ring of 7", with(RING_OF_7).trees(0), 7);
        due("a tree", with(UNEVEN_TREE).trees(0), 1);
        due("a triangle and one node: n - 1 lines, but two pieces", with("net 0 4 01 02 12;").trees(0), 0);
        due("all lines of 6, and one node", withNet(7, EVERY_LINE_OF_6).trees(0), 0);

        says("TREES. -2.");
        bounds("trees(slot)", 0, 5, -2, (b, slot) -> b.trees(slot));
    }

    private void term() {
        says("(n 0: C(0) is 1).");
        due("term(0, 0) of no nodes", withNet(0, 0).term(0, 0), 10001);
        due("term(0, 1) of no nodes", withNet(0, 0).term(0, 1), -3);

        says("C(k), 0 <= k <= n: what x to the power of n - k is times in the determinant of x on the diagonal");
        int[] whole = {10001, 10000, 9979, 9930, 9895, 9916, 9965, 9994};
        int[] ring = {10001, 10000, 9993, 10000, 10014, 10000, 9993, 9998};
        DeckBench x = with(RING_OF_7 + Tape.net(1, 7, EVERY_LINE_OF_7) + "net 2 7;net 3 1;net 4 2 01;");
        for (int k = 0; k <= 7; k++) {
            due("term(1, " + k + ") of all lines", x.term(1, k), whole[k]);
            due("term(0, " + k + ") of a ring", x.term(0, k), ring[k]);
            due("term(2, " + k + ") of no line", x.term(2, k), k == 0 ? 10001 : 10000);
        }
        due("term(3, 0) of one node", x.term(3, 0), 10001);
        due("term(3, 1) of one node", x.term(3, 1), 10000);
        due("term(4, 2) of one line", x.term(4, 2), 9999);

        says("C(k), told 10,000 more. -2: the SLOT; -3: k is not 0 to n.");
        bounds("term(slot, 0)", 0, 5, -2, (b, slot) -> b.term(slot, 0));
        bounds("term(4, k): no nodes", 0, 0, -3, (b, k) -> b.term(4, k));
        bounds("term(3, k): one node", 0, 1, -3, (b, k) -> b.term(3, k));
        bounds("term(0, k): 4 nodes", 0, 4, -3, (b, k) -> b.term(0, k));
        bounds("term(1, k): 7 nodes", 0, 7, -3, (b, k) -> b.term(1, k));
        refused("term(6, -1): the slot first", -2, b -> b.term(6, -1));
        refused("term(-1, 8): the slot first", -2, b -> b.term(-1, 8));
    }

    private void far() {
        says("How many LINES the shortest way between two NODES has (0 of one with itself).");
        DeckBench x = with("net 0 7 01 12 23 34 45 56;" + Tape.net(1, 7, EVERY_LINE_OF_7) + "net 2 7;net 3 1;"
                + "net 4 7 01 12 23 34 45 56 06;");
        for (int a = 0; a < 7; a++) {
            for (int b = 0; b < 7; b++) {
                int apart = Math.abs(a - b);
                due("far(0, " + a + ", " + b + ") of a path", x.far(0, a, b), apart);
                due("far(1, " + a + ", " + b + ") of all lines", x.far(1, a, b), a == b ? 0 : 1);
                due("far(2, " + a + ", " + b + ") of no line", x.far(2, a, b), a == b ? 0 : NONE);
                due("far(4, " + a + ", " + b + ") of a ring", x.far(4, a, b), Math.min(apart, 7 - apart));
            }
        }
        due("far(3, 0, 0) of one node", x.far(3, 0, 0), 0);

        says("NONE: there is none; -2.");
        x = with("net 0 7 01 12 34 45 56;");
        due("far(0, 2, 3)", x.far(0, 2, 3), NONE);
        due("far(0, 0, 6)", x.far(0, 0, 6), NONE);
        due("far(0, 3, 6)", x.far(0, 3, 6), 3);
        due("far(0, 2, 7): -2 ahead of NONE", x.far(0, 2, 7), -2);
        bounds("far(slot, 0, 0)", 0, 5, -2, (b, slot) -> b.far(slot, 0, 0));
        bounds("far(0, a, 1)", 0, 3, -2, (b, a) -> b.far(0, a, 1));
        bounds("far(0, 1, b)", 0, 3, -2, (b, other) -> b.far(0, 1, other));
        bounds("far(1, a, 0)", 0, 6, -2, (b, a) -> b.far(1, a, 0));
        refused("far(0, 4, 4): no node, with itself", -2, b -> b.far(0, 4, 4));
        refused("far(4, 0, 0): no nodes", -2, b -> b.far(4, 0, 0));
    }

    @Override
    void all() {
        net();
        node();
        alike();
        parts();
        least();
        rivals();
        lineDeck();
        is();
        trees();
        term();
        far();
    }

    public static void main(String[] args) {
        new NetSentenceTest().run();
    }
}
