/**
 * Nets of a few nodes and their decks of cards, as ../shared/DOC.md promises.
 * All rows are made in constructors and used again: the calls make no objects.
 */
public final class DeckBench {
    public static final int NONE = -1;

    private static final int NO_SUCH = -2;
    private static final int BAD_NUMBER = -3;
    private static final int TOO_MANY = -4;
    private static final int CANNOT_BE = -5;
    private static final int TEXT_REFUSED = -30;

    private static final int SLOTS = 6;
    private static final int DECKS = 3;
    private static final int MOST_NODES = 7;
    private static final int MOST_LINES = 21;
    private static final int CLASSES = 6;
    private static final int TAPE_BYTES = 600;
    private static final int FED_BYTES = 20;
    private static final int DEGREE_SHIFT = 100;
    private static final int TERM_SHIFT = 10000;
    private static final int LISTED_NODES = 5;
    private static final int COUNT_OF_LISTED = 10;

    private final Net[] slots = new Net[SLOTS];
    private final Deck[] decks = new Deck[DECKS];
    private final byte[] tape = new byte[TAPE_BYTES];
    private int tapeLength = 0;
    private int faultKind = 0;
    private int faultPlace = NONE;
    private final History history = new History();
    private final FormSearch forms = new FormSearch();
    private final SymmetrySearch symmetries = new SymmetrySearch();
    private final Figures figures = new Figures(forms);
    private final Dealer dealer = new Dealer(forms);
    private final Solver solver = new Solver(dealer, figures);
    private final SmallNets smallNets = new SmallNets(dealer);
    private final TextReader reader = new TextReader(tape, forms);

    public DeckBench() {
        for (int i = 0; i < SLOTS; i++) {
            slots[i] = new Net();
        }
        for (int i = 0; i < DECKS; i++) {
            decks[i] = new Deck();
        }
    }

    // ---- the tape and the text

    public int feed(int a, int b, int c, int d, int e) {
        if (tapeLength + FED_BYTES > TAPE_BYTES) {
            return TOO_MANY;
        }
        feedBytes(a);
        feedBytes(b);
        feedBytes(c);
        feedBytes(d);
        feedBytes(e);
        return tapeLength;
    }

    public int tell(int n) {
        if (n < 0 || n > tapeLength) {
            return BAD_NUMBER;
        }
        reader.read(n);
        tapeLength = 0;
        faultKind = reader.fault;
        faultPlace = reader.faultPlace;
        if (faultKind != 0) {
            return TEXT_REFUSED - faultKind;
        }
        for (int i = 0; i < SLOTS; i++) {
            slots[i].copy(reader.slots[i]);
        }
        for (int i = 0; i < DECKS; i++) {
            decks[i].copy(reader.decks[i]);
        }
        history.forget();
        return reader.linesRead;
    }

    public int fault(int what) {
        if (what == 0) {
            return faultKind;
        }
        return what == 1 ? faultPlace : NONE;
    }

    // ---- by hand

    public int join(int slot, int a, int b) {
        if (isNoNode(slot, a) || isNoNode(slot, b) || a == b) {
            return NO_SUCH;
        }
        Net net = slots[slot];
        history.keepNet(slot, net);
        net.flip(a, b);
        return net.lineCount();
    }

    public int grow(int slot, int nodes) {
        if (isNoSlot(slot)) {
            return NO_SUCH;
        }
        Net net = slots[slot];
        if ((nodes & ~net.everyNode()) != 0) {
            return BAD_NUMBER;
        }
        if (net.size >= MOST_NODES) {
            return TOO_MANY;
        }
        history.keepNet(slot, net);
        net.append(nodes);
        return net.size;
    }

    public int drop(int slot, int node) {
        if (isNoNode(slot, node)) {
            return NO_SUCH;
        }
        Net net = slots[slot];
        history.keepNet(slot, net);
        net.keepOnly(net, net.everyNode() & ~(1 << node));
        return net.size;
    }

    public int turn(int slot, int to) {
        if (isNoSlot(slot) || isNoSlot(to)) {
            return NO_SUCH;
        }
        history.keepNet(to, slots[to]);
        slots[to].invert(slots[slot]);
        return slots[to].lineCount();
    }

    public int put(int slot, int to) {
        if (isNoSlot(slot) || isNoSlot(to)) {
            return NO_SUCH;
        }
        int form = forms.formOf(slots[slot]);
        history.keepNet(to, slots[to]);
        slots[to].load(slots[slot].size, form);
        return slots[to].size;
    }

    public int deal(int slot, int deck) {
        if (isNoSlot(slot) || isNoDeckNumber(deck)) {
            return NO_SUCH;
        }
        if (slots[slot].size < 2) {
            return CANNOT_BE;
        }
        history.keepDeck(deck, decks[deck]);
        dealer.dealInto(slots[slot], decks[deck]);
        return decks[deck].unlikeCards();
    }

    public int replace(int deck, int card, int slot) {
        if (isNoCard(deck, card) || isNoSlot(slot)) {
            return NO_SUCH;
        }
        Deck changed = decks[deck];
        if (slots[slot].size != changed.size - 1) {
            return CANNOT_BE;
        }
        int form = forms.formOf(slots[slot]);
        history.keepDeck(deck, changed);
        changed.cards[card] = form;
        changed.sort();
        return changed.firstOf(form);
    }

    public int solve(int deck, int slot) {
        if (isNoDeck(deck) || isNoSlot(slot)) {
            return NO_SUCH;
        }
        if (solver.findAnswers(decks[deck]) == 0) {
            return CANNOT_BE;
        }
        history.keepNet(slot, slots[slot]);
        slots[slot].load(decks[deck].size, solver.found[0]);
        return slots[slot].lineCount();
    }

    public int undo() {
        if (history.size == 0) {
            return CANNOT_BE;
        }
        history.restoreLatest(slots, decks);
        return history.size;
    }

    // ---- nets

    public int net(int slot, int what) {
        if (isNoSlot(slot)) {
            return NO_SUCH;
        }
        Net asked = slots[slot];
        switch (what) {
            case 0:
                return asked.size;
            case 1:
                return asked.lineCount();
            case 2:
                return asked.code();
            case 3:
                return forms.formOf(asked);
            case 4:
                return symmetries.howMany(asked);
            case 5:
                return asked.pieceCount();
            case 6:
                return symmetries.orbitCount(asked);
            case 7:
                return countTwins(asked);
            default:
                return NO_SUCH;
        }
    }

    public int node(int slot, int node, int what) {
        if (isNoNode(slot, node)) {
            return NO_SUCH;
        }
        Net asked = slots[slot];
        switch (what) {
            case 0:
                return asked.degreeOf(node);
            case 1:
                return asked.near[node];
            case 2:
                return symmetries.leastOfOrbit(asked, node);
            case 3:
                return asked.size == 1 ? NONE : dealer.cardForm(asked, node);
            default:
                return NO_SUCH;
        }
    }

    public int alike(int one, int other) {
        if (isNoSlot(one) || isNoSlot(other)) {
            return NO_SUCH;
        }
        return forms.areAlike(slots[one], slots[other]) ? 1 : 0;
    }

    public int parts(int p, int slot) {
        if (isNoSlot(p) || isNoSlot(slot)) {
            return NO_SUCH;
        }
        return dealer.partsIn(slots[p].size, forms.formOf(slots[p]), slots[slot]);
    }

    public int least(int slot, int what) {
        if (isNoSlot(slot) || what < 0 || what > 1) {
            return NO_SUCH;
        }
        Net asked = slots[slot];
        if (asked.size < 3 || asked.size > LISTED_NODES) {
            return CANNOT_BE;
        }
        smallNets.dealAll();
        int form = forms.formOf(asked);
        return what == 0 ? smallNets.fewestTelling(asked.size, form) : smallNets.surelyTelling(asked.size, form);
    }

    public int rivals(int slot) {
        if (isNoSlot(slot)) {
            return NO_SUCH;
        }
        Net asked = slots[slot];
        if (asked.size < 2 || asked.size > LISTED_NODES) {
            return CANNOT_BE;
        }
        return smallNets.rivalsOf(asked.size, forms.formOf(asked));
    }

    public int lineDeck(int slot, int k) {
        if (isNoSlot(slot)) {
            return NO_SUCH;
        }
        if (k < NONE) {
            return BAD_NUMBER;
        }
        LineDeck dealt = dealer.lineDeckOf(slots[slot]);
        if (k == NONE) {
            return dealt.unlikeForms();
        }
        return k < dealt.size ? dealt.forms[k] : NONE;
    }

    public int is(int slot, int what) {
        if (isNoSlot(slot) || isNoClass(what)) {
            return NO_SUCH;
        }
        return figures.isOfClass(slots[slot], what) ? 1 : 0;
    }

    public int trees(int slot) {
        if (isNoSlot(slot)) {
            return NO_SUCH;
        }
        return figures.treeCount(slots[slot]);
    }

    public int term(int slot, int k) {
        if (isNoSlot(slot)) {
            return NO_SUCH;
        }
        if (k < 0 || k > slots[slot].size) {
            return BAD_NUMBER;
        }
        return figures.coefficient(slots[slot], k) + TERM_SHIFT;
    }

    public int far(int slot, int a, int b) {
        if (isNoNode(slot, a) || isNoNode(slot, b)) {
            return NO_SUCH;
        }
        return slots[slot].distance(a, b);
    }

    // ---- decks

    public int card(int deck, int card) {
        if (isNoDeckNumber(deck)) {
            return NO_SUCH;
        }
        if (card == NONE) {
            return decks[deck].size == 0 ? NONE : decks[deck].size;
        }
        return isNoCard(deck, card) ? NO_SUCH : decks[deck].cards[card];
    }

    public int common(int one, int other) {
        if (isNoDeck(one) || isNoDeck(other)) {
            return NO_SUCH;
        }
        return decks[one].sharedWith(decks[other]);
    }

    public int told(int deck, int what) {
        if (isNoDeck(deck) || what < 0 || what > 4) {
            return NO_SUCH;
        }
        Deck asked = decks[deck];
        if (what == 4) {
            return solver.cardsOfOnePiece(asked);
        }
        int lines = asked.toldLines();
        if (lines == NONE || what == 0) {
            return lines;
        }
        int greatest = lines - asked.fewestLines();
        int smallest = lines - asked.mostLines();
        if (what == 3) {
            return greatest == smallest ? 1 : 0;
        }
        return DEGREE_SHIFT + (what == 1 ? greatest : smallest);
    }

    public int degree(int deck, int card) {
        if (isNoCard(deck, card)) {
            return NO_SUCH;
        }
        int lines = decks[deck].toldLines();
        return lines == NONE ? NONE : DEGREE_SHIFT + lines - decks[deck].linesOf(card);
    }

    public int toldParts(int deck, int p) {
        if (isNoDeck(deck) || isNoSlot(p)) {
            return NO_SUCH;
        }
        Net part = slots[p];
        int size = decks[deck].size;
        if (part.size < 1 || part.size > size - 1 || size == 2) {
            return CANNOT_BE;
        }
        return solver.partsTold(decks[deck], part.size, forms.formOf(part));
    }

    public int toldTerm(int deck, int k) {
        if (isNoDeck(deck)) {
            return NO_SUCH;
        }
        int size = decks[deck].size;
        if (k < 0 || k > size - 1) {
            return BAD_NUMBER;
        }
        int sum = solver.coefficientsAdded(decks[deck], k);
        int share = size - k;
        return sum % share == 0 ? sum / share + TERM_SHIFT : NONE;
    }

    public int proved(int deck, int what) {
        if (isNoDeck(deck) || isNoClass(what)) {
            return NO_SUCH;
        }
        int answers = solver.findAnswers(decks[deck]);
        int ofClass = solver.answersOfClass(decks[deck].size, what);
        if (answers == 0 || (ofClass != 0 && ofClass != answers)) {
            return NONE;
        }
        return ofClass == 0 ? 0 : 1;
    }

    public int reason(int deck) {
        if (isNoDeck(deck)) {
            return NO_SUCH;
        }
        int early = solver.reasonByNumbers(decks[deck]);
        if (early != 0) {
            return early;
        }
        return solver.findAnswers(decks[deck]) == 0 ? 4 : 0;
    }

    public int answers(int deck, int k) {
        if (isNoDeck(deck)) {
            return NO_SUCH;
        }
        if (k < NONE) {
            return BAD_NUMBER;
        }
        int answers = solver.findAnswers(decks[deck]);
        if (k == NONE) {
            return answers;
        }
        return k < answers ? solver.found[k] : NONE;
    }

    public int mends(int deck, int card) {
        if (isNoCard(deck, card)) {
            return NO_SUCH;
        }
        Deck mended = decks[deck];
        if (mended.size < 3 || mended.size > LISTED_NODES) {
            return CANNOT_BE;
        }
        smallNets.dealAll();
        return smallNets.decksWithAllBut(mended, card);
    }

    public int count(int what) {
        switch (what) {
            case 0:
                return history.size;
            case 1:
                return tapeLength;
            case 2:
                return countSlotsWithNodes();
            case 3:
                return countDecks();
            default:
                break;
        }
        if (what < COUNT_OF_LISTED || what > COUNT_OF_LISTED + LISTED_NODES) {
            return NONE;
        }
        return smallNets.howManyOf(what - COUNT_OF_LISTED);
    }

    // ---- what the calls share

    private static boolean isNoSlot(int slot) {
        return slot < 0 || slot >= SLOTS;
    }

    private boolean isNoNode(int slot, int node) {
        return isNoSlot(slot) || node < 0 || node >= slots[slot].size;
    }

    private static boolean isNoDeckNumber(int deck) {
        return deck < 0 || deck >= DECKS;
    }

    private boolean isNoDeck(int deck) {
        return isNoDeckNumber(deck) || decks[deck].size == 0;
    }

    private boolean isNoCard(int deck, int card) {
        return isNoDeckNumber(deck) || card < 0 || card >= decks[deck].size;
    }

    private static boolean isNoClass(int what) {
        return what < 0 || what >= CLASSES;
    }

    private void feedBytes(int four) {
        for (int shift = 24; shift >= 0 && tapeLength < TAPE_BYTES; shift -= 8) {
            tape[tapeLength] = (byte) (four >>> shift);
            tapeLength++;
        }
    }

    private int countTwins(Net net) {
        int twins = 0;
        for (int b = 1; b < net.size; b++) {
            for (int a = 0; a < b; a++) {
                boolean likeCards = net.degreeOf(a) == net.degreeOf(b)
                        && dealer.cardForm(net, a) == dealer.cardForm(net, b);
                if (likeCards && !symmetries.takes(net, 0, a, b)) {
                    twins++;
                }
            }
        }
        return twins;
    }

    private int countSlotsWithNodes() {
        int some = 0;
        for (int i = 0; i < SLOTS; i++) {
            if (slots[i].size > 0) {
                some++;
            }
        }
        return some;
    }

    private int countDecks() {
        int some = 0;
        for (int i = 0; i < DECKS; i++) {
            if (decks[i].size > 0) {
                some++;
            }
        }
        return some;
    }

    /** A net: node v is joined with the nodes whose bits stand in near[v]; rows of no node are 0. */
    private static final class Net {
        int size = 0;
        final int[] near = new int[MOST_NODES];

        void clear(int nodes) {
            size = Math.max(0, Math.min(MOST_NODES, nodes));
            for (int v = 0; v < MOST_NODES; v++) {
                near[v] = 0;
            }
        }

        void load(int nodes, int code) {
            clear(nodes);
            for (int b = 1; b < size; b++) {
                int row = code >> firstBitOf(b);
                for (int a = 0; a < b; a++) {
                    if ((row >> a & 1) != 0) {
                        flip(a, b);
                    }
                }
            }
        }

        void copy(Net from) {
            size = from.size;
            System.arraycopy(from.near, 0, near, 0, MOST_NODES);
        }

        static int firstBitOf(int b) {
            return b * (b - 1) / 2;
        }

        int code() {
            int code = 0;
            for (int b = 1; b < size; b++) {
                code |= (near[b] & (1 << b) - 1) << firstBitOf(b);
            }
            return code;
        }

        int everyNode() {
            return (1 << size) - 1;
        }

        boolean hasNode(int v) {
            return v >= 0 && v < size;
        }

        int degreeOf(int v) {
            return hasNode(v) ? Integer.bitCount(near[v]) : 0;
        }

        int lineCount() {
            int ends = 0;
            for (int v = 0; v < size; v++) {
                ends += Integer.bitCount(near[v]);
            }
            return ends / 2;
        }

        boolean areJoined(int a, int b) {
            return hasNode(a) && hasNode(b) && (near[a] >> b & 1) != 0;
        }

        void flip(int a, int b) {
            if (hasNode(a) && hasNode(b) && a != b) {
                near[a] ^= 1 << b;
                near[b] ^= 1 << a;
            }
        }

        void append(int nodes) {
            if (size >= MOST_NODES) {
                return;
            }
            int added = size;
            size++;
            for (int v = 0; v < added; v++) {
                if ((nodes >> v & 1) != 0) {
                    flip(v, added);
                }
            }
        }

        void invert(Net from) {
            int every = from.everyNode();
            size = from.size;
            for (int v = 0; v < MOST_NODES; v++) {
                near[v] = v < size ? every & ~from.near[v] & ~(1 << v) : 0;
            }
        }

        /** May be called with this net itself: a row is written only where no later step reads. */
        void keepOnly(Net from, int nodes) {
            int oldSize = from.size;
            int kept = 0;
            for (int v = 0; v < oldSize; v++) {
                if ((nodes >> v & 1) != 0) {
                    near[kept] = closeUp(from.near[v], nodes, oldSize);
                    kept++;
                }
            }
            size = kept;
            for (int v = kept; v < MOST_NODES; v++) {
                near[v] = 0;
            }
        }

        private static int closeUp(int row, int nodes, int width) {
            int closed = 0;
            int bit = 0;
            for (int v = 0; v < width; v++) {
                if ((nodes >> v & 1) != 0) {
                    closed |= (row >> v & 1) << bit;
                    bit++;
                }
            }
            return closed;
        }

        int withNeighbours(int nodes) {
            int all = nodes;
            for (int v = 0; v < size; v++) {
                if ((nodes >> v & 1) != 0) {
                    all |= near[v];
                }
            }
            return all;
        }

        int pieceOf(int node) {
            int piece = 1 << node;
            for (int step = 1; step < size; step++) {
                piece = withNeighbours(piece);
            }
            return piece;
        }

        int pieceCount() {
            int seen = 0;
            int pieces = 0;
            for (int v = 0; v < size; v++) {
                if ((seen >> v & 1) == 0) {
                    seen |= pieceOf(v);
                    pieces++;
                }
            }
            return pieces;
        }

        int distance(int a, int b) {
            int reached = 1 << a;
            for (int steps = 0; steps < size; steps++) {
                if ((reached >> b & 1) != 0) {
                    return steps;
                }
                reached = withNeighbours(reached);
            }
            return NONE;
        }
    }

    /** The forms of a deck's cards, the least first; a deck of size 0 is none. */
    private static final class Deck {
        int size = 0;
        final int[] cards = new int[MOST_NODES];

        void copy(Deck from) {
            size = from.size;
            System.arraycopy(from.cards, 0, cards, 0, MOST_NODES);
        }

        void clear() {
            size = 0;
        }

        void sort() {
            sortFirst(cards, size);
        }

        static void sortFirst(int[] row, int length) {
            for (int i = 1; i < length && i < row.length; i++) {
                int moved = row[i];
                int at = i;
                while (at > 0 && row[at - 1] > moved) {
                    row[at] = row[at - 1];
                    at--;
                }
                row[at] = moved;
            }
        }

        static int unlikeIn(int[] sorted, int length) {
            int unlike = 0;
            for (int i = 0; i < length && i < sorted.length; i++) {
                if (i == 0 || sorted[i] != sorted[i - 1]) {
                    unlike++;
                }
            }
            return unlike;
        }

        int unlikeCards() {
            return unlikeIn(cards, size);
        }

        int firstOf(int form) {
            for (int i = 0; i < size; i++) {
                if (cards[i] == form) {
                    return i;
                }
            }
            return NONE;
        }

        /** Cards of decks with other sizes have other numbers of nodes: never alike. */
        int sharedWith(Deck other) {
            if (size != other.size) {
                return 0;
            }
            int shared = 0;
            int at = 0;
            for (int i = 0; i < size; i++) {
                while (at < size && other.cards[at] < cards[i]) {
                    at++;
                }
                if (at < size && other.cards[at] == cards[i]) {
                    shared++;
                    at++;
                }
            }
            return shared;
        }

        /** A form is a code, and a code has a bit for each line. */
        int linesOf(int card) {
            return card >= 0 && card < size ? Integer.bitCount(cards[card]) : 0;
        }

        int fewestLines() {
            int fewest = MOST_LINES;
            for (int i = 0; i < size; i++) {
                fewest = Math.min(fewest, linesOf(i));
            }
            return fewest;
        }

        int mostLines() {
            int most = 0;
            for (int i = 0; i < size; i++) {
                most = Math.max(most, linesOf(i));
            }
            return most;
        }

        /** NONE where they are no whole number, or the deck is too small to tell. */
        int toldLines() {
            if (size < 3) {
                return NONE;
            }
            int sum = 0;
            for (int i = 0; i < size; i++) {
                sum += linesOf(i);
            }
            int share = size - 2;
            return sum % share == 0 ? sum / share : NONE;
        }
    }

    /** The forms of a net without each of its lines, the least first. */
    private static final class LineDeck {
        int size = 0;
        final int[] forms = new int[MOST_LINES];

        void clear() {
            size = 0;
        }

        void add(int form) {
            if (size < MOST_LINES) {
                forms[size] = form;
                size++;
            }
        }

        void sort() {
            Deck.sortFirst(forms, size);
        }

        int unlikeForms() {
            return Deck.unlikeIn(forms, size);
        }

        void copy(LineDeck from) {
            size = from.size;
            System.arraycopy(from.forms, 0, forms, 0, MOST_LINES);
        }

        boolean isSameAs(LineDeck other) {
            if (size != other.size) {
                return false;
            }
            for (int i = 0; i < size; i++) {
                if (forms[i] != other.forms[i]) {
                    return false;
                }
            }
            return true;
        }
    }

    /**
     * Finds forms. A code's highest bits are the last node's row, so numbers are given from the last
     * down: the nodes not yet numbered stand in cells, sets told apart by the nodes numbered already,
     * and each row is least with its node's neighbours at the low end of every cell.
     */
    private static final class FormSearch {
        private static final int TOP_BITS = Integer.MAX_VALUE;
        private final int[] cells = new int[MOST_NODES * MOST_NODES];
        private final int[] cellCounts = new int[MOST_NODES];
        private final int[] leastRows = new int[MOST_NODES];
        private int best = 0;

        int formOf(Net net) {
            if (net.size < 2) {
                return 0;
            }
            int last = net.size - 1;
            cells[last * MOST_NODES] = net.everyNode();
            cellCounts[last] = 1;
            best = TOP_BITS;
            fillPlace(this, net, last, 0);
            return best;
        }

        boolean areAlike(Net one, Net other) {
            return one.size == other.size
                    && one.lineCount() == other.lineCount()
                    && formOf(one) == formOf(other);
        }

        private static void fillPlace(FormSearch s, Net net, int place, int code) {
            if (place <= 0 || place >= MOST_NODES) {
                s.best = Math.min(s.best, code);
                return;
            }
            int fitting = s.nodesOfLeastRow(net, place);
            int shift = Net.firstBitOf(place);
            int longer = code | s.leastRows[place] << shift;
            if (longer >> shift > s.best >> shift) {
                return;
            }
            int tried = 0;
            for (int v = 0; v < net.size; v++) {
                if ((fitting >> v & 1) != 0 && !hasTwin(net, v, tried)) {
                    tried |= 1 << v;
                    s.splitCells(net, place, v);
                    fillPlace(s, net, place - 1, longer);
                }
            }
        }

        /** Those of the last cell that have the least row at a place, as bits; the row is kept. */
        private int nodesOfLeastRow(Net net, int place) {
            int count = cellCounts[place];
            int first = place * MOST_NODES;
            int last = count > 0 ? cells[first + count - 1] : 0;
            int nodes = 0;
            leastRows[place] = TOP_BITS;
            for (int v = 0; v < net.size; v++) {
                int row = 0;
                int low = 0;
                for (int i = 0; i < count; i++) {
                    int cell = cells[first + i];
                    row |= (1 << Integer.bitCount(cell & net.near[v])) - 1 << low;
                    low += Integer.bitCount(cell);
                }
                if ((last >> v & 1) != 0 && row <= leastRows[place]) {
                    nodes = row < leastRows[place] ? 1 << v : nodes | 1 << v;
                    leastRows[place] = row;
                }
            }
            return nodes;
        }

        /** Nodes of one cell that differ only by each other lead to the same codes: one is enough. */
        private static boolean hasTwin(Net net, int v, int tried) {
            for (int w = 0; w < net.size; w++) {
                int both = 1 << v | 1 << w;
                if ((tried >> w & 1) != 0 && (net.near[v] & ~both) == (net.near[w] & ~both)) {
                    return true;
                }
            }
            return false;
        }

        private void splitCells(Net net, int place, int v) {
            int below = place - 1;
            cellCounts[below] = 0;
            for (int i = 0; i < cellCounts[place]; i++) {
                int cell = cells[place * MOST_NODES + i] & ~(1 << v);
                addCell(below, cell & net.near[v]);
                addCell(below, cell & ~net.near[v]);
            }
        }

        private void addCell(int place, int cell) {
            if (cell != 0 && cellCounts[place] < MOST_NODES) {
                cells[place * MOST_NODES + cellCounts[place]] = cell;
                cellCounts[place]++;
            }
        }
    }

    /** Looks for symmetries node by node: images[v] is where node v goes, wanted[v] where it must go. */
    private static final class SymmetrySearch {
        private final int[] wanted = new int[MOST_NODES];
        private final int[] images = new int[MOST_NODES];

        /** Whether some symmetry leaves all nodes below fixed where they are and takes one to another. */
        boolean takes(Net net, int fixed, int from, int to) {
            if (!net.hasNode(from) || !net.hasNode(to) || net.degreeOf(from) != net.degreeOf(to)) {
                return false;
            }
            for (int v = 0; v < MOST_NODES; v++) {
                wanted[v] = v < fixed ? v : NONE;
            }
            wanted[from] = to;
            return extend(this, net, 0);
        }

        private static boolean extend(SymmetrySearch s, Net net, int node) {
            if (node >= net.size || node >= MOST_NODES) {
                return true;
            }
            for (int image = 0; image < net.size; image++) {
                if (s.mayGo(net, node, image)) {
                    s.images[node] = image;
                    if (extend(s, net, node + 1)) {
                        return true;
                    }
                }
            }
            return false;
        }

        /** Nodes wanted somewhere count though they come later: a wrong way is left early. */
        private boolean mayGo(Net net, int node, int image) {
            if (net.degreeOf(node) != net.degreeOf(image)) {
                return false;
            }
            if (wanted[node] != NONE && wanted[node] != image) {
                return false;
            }
            for (int other = 0; other < net.size; other++) {
                int known = other < node ? images[other] : wanted[other];
                boolean counts = other != node && known != NONE;
                if (counts && (known == image || net.areJoined(node, other) != net.areJoined(image, known))) {
                    return false;
                }
            }
            return true;
        }

        /** The places a node can go to with all before it fixed, multiplied: no need to list them all. */
        int howMany(Net net) {
            int product = 1;
            for (int v = 0; v < net.size; v++) {
                int places = 0;
                for (int to = v; to < net.size; to++) {
                    if (takes(net, v, v, to)) {
                        places++;
                    }
                }
                product *= places;
            }
            return product;
        }

        int leastOfOrbit(Net net, int node) {
            for (int to = 0; to < node; to++) {
                if (takes(net, 0, node, to)) {
                    return to;
                }
            }
            return node;
        }

        int orbitCount(Net net) {
            int orbits = 0;
            for (int v = 0; v < net.size; v++) {
                if (leastOfOrbit(net, v) == v) {
                    orbits++;
                }
            }
            return orbits;
        }
    }

    /** Classes of nets, their trees and the terms of their determinants. */
    private static final class Figures {
        private static final int SETS = 1 << MOST_NODES;
        private static final int CELLS = MOST_NODES * MOST_NODES;
        private final FormSearch forms;
        private final Net inverse = new Net();
        private final int[] rowEnds = new int[SETS];
        private final int[] matrix = new int[CELLS];
        private final int[] product = new int[CELLS];
        private final long[] minor = new long[CELLS];

        Figures(FormSearch forms) {
            this.forms = forms;
        }

        boolean isOfClass(Net net, int which) {
            if (net.size < 1) {
                return false;
            }
            switch (which) {
                case 0:
                    return net.pieceCount() == 1;
                case 1:
                    return hasLikeDegrees(net);
                case 2:
                    return net.pieceCount() == 1 && net.lineCount() == net.size - 1;
                case 3:
                    return hasTwoSides(net);
                case 4:
                    return hasRing(net);
                case 5:
                    inverse.invert(net);
                    return forms.areAlike(net, inverse);
                default:
                    return false;
            }
        }

        private static boolean hasLikeDegrees(Net net) {
            for (int v = 1; v < net.size; v++) {
                if (net.degreeOf(v) != net.degreeOf(0)) {
                    return false;
                }
            }
            return true;
        }

        private static boolean hasTwoSides(Net net) {
            for (int side = 0; side <= net.everyNode(); side++) {
                if (isSide(net, side)) {
                    return true;
                }
            }
            return false;
        }

        private static boolean isSide(Net net, int side) {
            for (int v = 0; v < net.size; v++) {
                int same = (side >> v & 1) != 0 ? side : ~side;
                if ((net.near[v] & same) != 0) {
                    return false;
                }
            }
            return true;
        }

        /** For each set with node 0: at which nodes a row of all its nodes from node 0 on can end. */
        private boolean hasRing(Net net) {
            if (net.size < 3) {
                return false;
            }
            int every = net.everyNode();
            for (int set = 0; set <= every; set++) {
                rowEnds[set] = 0;
            }
            rowEnds[1] = 1;
            for (int set = 1; set < every; set += 2) {
                lengthenRows(net, set);
            }
            return (rowEnds[every] & net.near[0]) != 0;
        }

        private void lengthenRows(Net net, int set) {
            for (int end = 0; end < net.size; end++) {
                int next = (rowEnds[set] >> end & 1) != 0 ? net.near[end] & ~set : 0;
                for (int v = 0; v < net.size; v++) {
                    if ((next >> v & 1) != 0) {
                        rowEnds[set | 1 << v] |= 1 << v;
                    }
                }
            }
        }

        /** The determinant of degrees less joints, the last node left out (Kirchhoff), by whole numbers. */
        int treeCount(Net net) {
            if (net.pieceCount() != 1) {
                return 0;
            }
            int width = net.size - 1;
            for (int i = 0; i < width; i++) {
                for (int j = 0; j < width; j++) {
                    minor[i * MOST_NODES + j] = i == j ? net.degreeOf(i) : net.areJoined(i, j) ? -1 : 0;
                }
            }
            long before = 1;
            for (int k = 0; k < width; k++) {
                long pivot = minor[k * MOST_NODES + k];
                if (pivot == 0 || before == 0) {
                    return 0;
                }
                clearColumn(k, width, before);
                before = pivot;
            }
            return (int) before;
        }

        private void clearColumn(int k, int width, long before) {
            if (before == 0) {
                return;
            }
            long pivot = minor[k * MOST_NODES + k];
            for (int i = k + 1; i < width; i++) {
                long lead = minor[i * MOST_NODES + k];
                for (int j = k + 1; j < width; j++) {
                    int at = i * MOST_NODES + j;
                    minor[at] = (minor[at] * pivot - lead * minor[k * MOST_NODES + j]) / before;
                }
            }
        }

        /** C(k), each from the one before by traces (Faddeev and LeVerrier). */
        int coefficient(Net net, int k) {
            int value = 1;
            for (int at = 0; at < CELLS; at++) {
                product[at] = 0;
            }
            for (int step = 1; step <= k; step++) {
                copyWithDiagonal(net.size, value);
                multiply(net);
                value = -trace(net.size) / step;
            }
            return value;
        }

        private void copyWithDiagonal(int width, int value) {
            System.arraycopy(product, 0, matrix, 0, CELLS);
            for (int i = 0; i < width; i++) {
                matrix[i * MOST_NODES + i] += value;
            }
        }

        private void multiply(Net net) {
            for (int i = 0; i < net.size; i++) {
                for (int j = 0; j < net.size; j++) {
                    int sum = 0;
                    for (int v = 0; v < net.size; v++) {
                        sum += (net.near[i] >> v & 1) != 0 ? matrix[v * MOST_NODES + j] : 0;
                    }
                    product[i * MOST_NODES + j] = sum;
                }
            }
        }

        private int trace(int width) {
            int sum = 0;
            for (int i = 0; i < width; i++) {
                sum += product[i * MOST_NODES + i];
            }
            return sum;
        }
    }

    /** Takes nets apart: cards, decks, decks by lines, parts. */
    private static final class Dealer {
        private final FormSearch forms;
        private final Net rest = new Net();
        private final LineDeck lineDeck = new LineDeck();

        Dealer(FormSearch forms) {
            this.forms = forms;
        }

        int formOf(Net net) {
            return forms.formOf(net);
        }

        int cardForm(Net net, int node) {
            rest.keepOnly(net, net.everyNode() & ~(1 << node));
            return forms.formOf(rest);
        }

        void dealInto(Net net, Deck deck) {
            for (int v = 0; v < net.size; v++) {
                deck.cards[v] = cardForm(net, v);
            }
            deck.size = net.size;
            deck.sort();
        }

        /** The row is used again by the next call. */
        LineDeck lineDeckOf(Net net) {
            lineDeck.clear();
            rest.copy(net);
            for (int b = 1; b < net.size; b++) {
                for (int a = 0; a < b; a++) {
                    if (net.areJoined(a, b)) {
                        rest.flip(a, b);
                        lineDeck.add(forms.formOf(rest));
                        rest.flip(a, b);
                    }
                }
            }
            lineDeck.sort();
            return lineDeck;
        }

        int partsIn(int partSize, int partForm, Net net) {
            int partLines = Integer.bitCount(partForm);
            int parts = 0;
            for (int set = 0; set <= net.everyNode(); set++) {
                if (Integer.bitCount(set) == partSize) {
                    rest.keepOnly(net, set);
                    boolean mayBe = rest.lineCount() == partLines;
                    if (mayBe && forms.formOf(rest) == partForm) {
                        parts++;
                    }
                }
            }
            return parts;
        }
    }

    /** What a deck alone tells, and the nets that have it. */
    private static final class Solver {
        private static final int TRIALS = 1 << MOST_NODES - 1;
        private final Dealer dealer;
        private final Figures figures;
        private final Net card = new Net();
        private final Net trial = new Net();
        private final int[] left = new int[MOST_NODES];
        private final int[] triples = new int[4];
        final int[] found = new int[TRIALS];
        private int foundCount = 0;

        Solver(Dealer dealer, Figures figures) {
            this.dealer = dealer;
            this.figures = figures;
        }

        int cardsOfOnePiece(Deck deck) {
            int whole = 0;
            for (int i = 0; i < deck.size; i++) {
                card.load(deck.size - 1, deck.cards[i]);
                if (card.pieceCount() == 1) {
                    whole++;
                }
            }
            return whole;
        }

        int coefficientsAdded(Deck deck, int k) {
            int sum = 0;
            for (int i = 0; i < deck.size; i++) {
                card.load(deck.size - 1, deck.cards[i]);
                sum += figures.coefficient(card, k);
            }
            return sum;
        }

        int partsTold(Deck deck, int partSize, int partForm) {
            int share = deck.size - partSize;
            if (share <= 0) {
                return NONE;
            }
            int sum = 0;
            for (int i = 0; i < deck.size; i++) {
                card.load(deck.size - 1, deck.cards[i]);
                sum += dealer.partsIn(partSize, partForm, card);
            }
            return sum % share == 0 ? sum / share : NONE;
        }

        /** The reason that needs no look at nets, 0 where there is none such. */
        int reasonByNumbers(Deck deck) {
            if (deck.size < 3) {
                return 0;
            }
            int lines = deck.toldLines();
            if (lines == NONE) {
                return 1;
            }
            if (lines < deck.mostLines() || lines - deck.fewestLines() > deck.size - 1) {
                return 2;
            }
            return deck.size >= 4 && !hasWholeTriples(deck) ? 3 : 0;
        }

        /** Nets of 3 nodes are told apart by how many lines they have. */
        private boolean hasWholeTriples(Deck deck) {
            int share = deck.size - 3;
            if (share <= 0) {
                return true;
            }
            for (int lines = 0; lines <= 3; lines++) {
                triples[lines] = 0;
            }
            for (int i = 0; i < deck.size; i++) {
                card.load(deck.size - 1, deck.cards[i]);
                addTriples();
            }
            for (int lines = 0; lines <= 3; lines++) {
                if (triples[lines] % share != 0) {
                    return false;
                }
            }
            return true;
        }

        private void addTriples() {
            for (int c = 2; c < card.size; c++) {
                for (int b = 1; b < c; b++) {
                    for (int a = 0; a < b; a++) {
                        int triple = 1 << a | 1 << b | 1 << c;
                        int lineEnds = Integer.bitCount(card.near[a] & triple)
                                + Integer.bitCount(card.near[b] & triple)
                                + Integer.bitCount(card.near[c] & triple);
                        triples[lineEnds / 2]++;
                    }
                }
            }
        }

        /** An answer is card 0 with one node more; its other cards tell whether it is one. */
        int findAnswers(Deck deck) {
            foundCount = 0;
            int lines = deck.toldLines();
            if (deck.size < 2 || (deck.size >= 3 && lines == NONE)) {
                return 0;
            }
            int degree = lines - deck.linesOf(0);
            card.load(deck.size - 1, deck.cards[0]);
            for (int joints = 0; joints <= card.everyNode(); joints++) {
                if (deck.size == 2 || Integer.bitCount(joints) == degree) {
                    trial.copy(card);
                    trial.append(joints);
                    if (hasDeck(trial, deck)) {
                        addFound(dealer.formOf(trial));
                    }
                }
            }
            return foundCount;
        }

        private boolean hasDeck(Net net, Deck deck) {
            System.arraycopy(deck.cards, 0, left, 0, MOST_NODES);
            for (int v = 0; v < net.size; v++) {
                if (!takeCard(dealer.cardForm(net, v), deck.size - v)) {
                    return false;
                }
            }
            return true;
        }

        /** The cards still left stand first: one taken gives its place to the last of them. */
        private boolean takeCard(int form, int leftCount) {
            for (int i = 0; i < leftCount && i < MOST_NODES; i++) {
                if (left[i] == form) {
                    left[i] = left[leftCount - 1];
                    return true;
                }
            }
            return false;
        }

        private void addFound(int form) {
            int at = 0;
            while (at < foundCount && found[at] < form) {
                at++;
            }
            if (foundCount >= TRIALS || (at < foundCount && found[at] == form)) {
                return;
            }
            for (int i = foundCount; i > at; i--) {
                found[i] = found[i - 1];
            }
            found[at] = form;
            foundCount++;
        }

        int answersOfClass(int nodes, int which) {
            int some = 0;
            for (int i = 0; i < foundCount; i++) {
                trial.load(nodes, found[i]);
                if (figures.isOfClass(trial, which)) {
                    some++;
                }
            }
            return some;
        }
    }

    /** All nets of 0 to 5 nodes, with the decks of those of 3 and more, dealt when first asked for. */
    private static final class SmallNets {
        /** Nets of n nodes stand from FIRSTS[n] to below FIRSTS[n + 1] in FORMS; a test makes them anew. */
        private static final int[] FIRSTS = {0, 1, 2, 4, 8, 19, 53};
        private static final int[] FORMS = {
            0,
            0,
            0, 1,
            0, 1, 3, 7,
            0, 1, 3, 7, 11, 12, 13, 15, 30, 31, 63,
            0, 1, 3, 7, 11, 12, 13, 15, 30, 31, 63, 75, 76, 77, 79, 86, 87,
            94, 95, 116, 117, 119, 127, 222, 223, 235, 236, 237, 239, 254, 255, 507, 511, 1023,
        };
        private static final int MOST_NETS = 53;
        private static final int FIRST_DEALT = 3;
        private final Dealer dealer;
        private final Net net = new Net();
        private final Deck[] decks = new Deck[MOST_NETS];
        private final Deck asked = new Deck();
        private final LineDeck askedLines = new LineDeck();
        private boolean dealt = false;

        SmallNets(Dealer dealer) {
            this.dealer = dealer;
            for (int i = 0; i < MOST_NETS; i++) {
                decks[i] = new Deck();
            }
        }

        void dealAll() {
            for (int nodes = FIRST_DEALT; nodes <= LISTED_NODES && !dealt; nodes++) {
                for (int i = FIRSTS[nodes]; i < FIRSTS[nodes + 1]; i++) {
                    net.load(nodes, FORMS[i]);
                    dealer.dealInto(net, decks[i]);
                }
            }
            dealt = true;
        }

        int howManyOf(int nodes) {
            return nodes >= 0 && nodes <= LISTED_NODES ? FIRSTS[nodes + 1] - FIRSTS[nodes] : 0;
        }

        private void askFor(int nodes, int form) {
            for (int i = FIRSTS[nodes]; i < FIRSTS[nodes + 1]; i++) {
                if (FORMS[i] == form) {
                    asked.copy(decks[i]);
                }
            }
        }

        int fewestTelling(int nodes, int form) {
            askFor(nodes, form);
            int fewest = nodes;
            for (int chosen = 1; chosen < 1 << nodes; chosen++) {
                int size = Integer.bitCount(chosen);
                if (size < fewest && !isInAnother(nodes, form, chosen)) {
                    fewest = size;
                }
            }
            return fewest;
        }

        private boolean isInAnother(int nodes, int form, int chosen) {
            for (int i = FIRSTS[nodes]; i < FIRSTS[nodes + 1]; i++) {
                if (FORMS[i] != form && hasChosen(decks[i], chosen)) {
                    return true;
                }
            }
            return false;
        }

        /** Whether a deck has the chosen cards (bits) of the asked one, each as often; both are sorted. */
        private boolean hasChosen(Deck deck, int chosen) {
            int at = 0;
            for (int i = 0; i < asked.size; i++) {
                if ((chosen >> i & 1) != 0) {
                    while (at < deck.size && deck.cards[at] < asked.cards[i]) {
                        at++;
                    }
                    if (at >= deck.size || deck.cards[at] != asked.cards[i]) {
                        return false;
                    }
                    at++;
                }
            }
            return true;
        }

        /** As many as it can have in common with another net do not tell it; one more always do. */
        int surelyTelling(int nodes, int form) {
            askFor(nodes, form);
            int shared = 0;
            for (int i = FIRSTS[nodes]; i < FIRSTS[nodes + 1]; i++) {
                if (FORMS[i] != form) {
                    shared = Math.max(shared, asked.sharedWith(decks[i]));
                }
            }
            return shared + 1;
        }

        int rivalsOf(int nodes, int form) {
            net.load(nodes, form);
            askedLines.copy(dealer.lineDeckOf(net));
            int rivals = 0;
            for (int i = FIRSTS[nodes]; i < FIRSTS[nodes + 1]; i++) {
                boolean mayBe = FORMS[i] != form && Integer.bitCount(FORMS[i]) == askedLines.size;
                if (mayBe) {
                    net.load(nodes, FORMS[i]);
                    rivals += dealer.lineDeckOf(net).isSameAs(askedLines) ? 1 : 0;
                }
            }
            return rivals;
        }

        /** No two nets of 3 to 5 nodes have the same deck: unlike nets count as unlike decks. */
        int decksWithAllBut(Deck deck, int card) {
            asked.copy(deck);
            int nodes = deck.size;
            int chosen = (1 << nodes) - 1 & ~(1 << card);
            int fitting = 0;
            for (int i = FIRSTS[nodes]; i < FIRSTS[nodes + 1]; i++) {
                if (hasChosen(decks[i], chosen)) {
                    fitting++;
                }
            }
            return fitting;
        }
    }

    /** Reads a text into slots and decks of its own, which count only if there is no fault. */
    private static final class TextReader {
        private static final int WRONG_PLACE = 1;
        private static final int OUT_OF_BOUNDS = 2;
        private static final int WRONG_PAIR = 3;
        private static final int WRONG_CARDS = 4;

        private static final int AT_END = 0;
        private static final int AT_NUMBER = 1;
        private static final int AT_WORD = 2;
        private static final int AT_OTHER = 3;

        final Net[] slots = new Net[SLOTS];
        final Deck[] decks = new Deck[DECKS];
        int fault = 0;
        int faultPlace = NONE;
        int linesRead = 0;
        private final FormSearch forms;
        private final Net card = new Net();
        private final byte[] text;
        private int length = 0;
        private int kind = AT_END;
        private int start = 0;
        private int end = 0;

        TextReader(byte[] text, FormSearch forms) {
            this.text = text;
            this.forms = forms;
            for (int i = 0; i < SLOTS; i++) {
                slots[i] = new Net();
            }
            for (int i = 0; i < DECKS; i++) {
                decks[i] = new Deck();
            }
        }

        void read(int bytes) {
            begin(bytes);
            for (int line = 0; line <= length && fault == 0 && kind != AT_END; line++) {
                if (isWord("net")) {
                    readNet();
                } else if (isWord("deck")) {
                    readDeck();
                } else {
                    refuse(WRONG_PLACE);
                }
                linesRead++;
            }
            if (fault == 0) {
                sortDecks();
            }
        }

        private void begin(int bytes) {
            for (int i = 0; i < SLOTS; i++) {
                slots[i].clear(0);
            }
            for (int i = 0; i < DECKS; i++) {
                decks[i].clear();
            }
            length = Math.max(0, Math.min(bytes, text.length));
            fault = 0;
            faultPlace = NONE;
            linesRead = 0;
            end = 0;
            advance();
        }

        /** Till here cards are the codes they were told by: forms are not sought for a refused text. */
        private void sortDecks() {
            for (int i = 0; i < DECKS; i++) {
                Deck deck = decks[i];
                for (int j = 0; j < deck.size; j++) {
                    card.load(deck.size - 1, deck.cards[j]);
                    deck.cards[j] = forms.formOf(card);
                }
                deck.sort();
            }
        }

        private void readNet() {
            advance();
            int slot = readDigit(0, SLOTS - 1);
            int nodes = readDigit(0, MOST_NODES);
            if (fault != 0) {
                return;
            }
            slots[slot].clear(nodes);
            readPairs(slots[slot]);
            readLineEnd();
        }

        private void readDeck() {
            advance();
            int number = readDigit(0, DECKS - 1);
            int nodes = readDigit(2, MOST_NODES);
            if (fault != 0) {
                return;
            }
            Deck deck = decks[number];
            deck.clear();
            for (int i = 0; i <= nodes && fault == 0 && isWord("card"); i++) {
                readCard(deck, nodes);
            }
            if (fault != 0) {
                return;
            }
            if (deck.size == 0) {
                refuse(WRONG_PLACE);
            } else if (deck.size < nodes && isLineEnd()) {
                refuse(WRONG_CARDS);
            } else {
                readLineEnd();
            }
        }

        private void readCard(Deck deck, int nodes) {
            if (deck.size >= nodes || deck.size >= MOST_NODES) {
                refuse(WRONG_CARDS);
                return;
            }
            advance();
            card.clear(nodes - 1);
            readPairs(card);
            if (fault == 0) {
                deck.cards[deck.size] = card.code();
                deck.size++;
            }
        }

        private void readPairs(Net net) {
            for (int i = 0; i <= length && fault == 0 && kind == AT_NUMBER; i++) {
                readPair(net);
            }
        }

        private void readPair(Net net) {
            if (end - start != 2) {
                refuse(OUT_OF_BOUNDS);
                return;
            }
            int a = text[start] - '0';
            int b = text[start + 1] - '0';
            if (a == b || !net.hasNode(a) || !net.hasNode(b) || net.areJoined(a, b)) {
                refuse(WRONG_PAIR);
                return;
            }
            net.flip(a, b);
            advance();
        }

        private int readDigit(int low, int high) {
            if (fault != 0) {
                return low;
            }
            if (kind != AT_NUMBER) {
                refuse(WRONG_PLACE);
                return low;
            }
            int value = text[start] - '0';
            if (end - start != 1 || value < low || value > high) {
                refuse(OUT_OF_BOUNDS);
                return low;
            }
            advance();
            return value;
        }

        private void readLineEnd() {
            if (fault != 0) {
                return;
            }
            if (isLineEnd()) {
                advance();
            } else {
                refuse(WRONG_PLACE);
            }
        }

        private void refuse(int which) {
            fault = which;
            faultPlace = start;
        }

        private boolean isLineEnd() {
            return kind == AT_OTHER && text[start] == ';';
        }

        private boolean isWord(String word) {
            if (kind != AT_WORD || end - start != word.length()) {
                return false;
            }
            for (int i = 0; i < word.length(); i++) {
                if (text[start + i] != word.charAt(i)) {
                    return false;
                }
            }
            return true;
        }

        /** Goes on to the next number, word, other byte or the end, whose place is the length. */
        private void advance() {
            start = end;
            while (start < length && text[start] == ' ') {
                start++;
            }
            if (start >= length) {
                kind = AT_END;
                end = start;
                return;
            }
            kind = kindOf(text[start]);
            end = start + 1;
            while (kind != AT_OTHER && end < length && kindOf(text[end]) == kind) {
                end++;
            }
        }

        private static int kindOf(byte sign) {
            if (sign >= '0' && sign <= '9') {
                return AT_NUMBER;
            }
            return sign >= 'a' && sign <= 'z' ? AT_WORD : AT_OTHER;
        }
    }

    /** What the latest acts changed, as it was ahead of each; older acts are written over. */
    private static final class History {
        private static final int DEPTH = 10;
        private static final int WIDTH = 3 + MOST_NODES;
        private static final int OF_NET = 0;
        private static final int OF_DECK = 1;
        private final int[] rows = new int[DEPTH * WIDTH];
        private int next = 0;
        int size = 0;

        void forget() {
            size = 0;
        }

        void keepNet(int slot, Net net) {
            keep(OF_NET, slot, net.size, net.near);
        }

        void keepDeck(int number, Deck deck) {
            keep(OF_DECK, number, deck.size, deck.cards);
        }

        private void keep(int kind, int number, int nodes, int[] values) {
            int at = next * WIDTH;
            rows[at] = kind;
            rows[at + 1] = number;
            rows[at + 2] = nodes;
            System.arraycopy(values, 0, rows, at + 3, MOST_NODES);
            next = (next + 1) % DEPTH;
            size = Math.min(DEPTH, size + 1);
        }

        void restoreLatest(Net[] slots, Deck[] decks) {
            if (size <= 0) {
                return;
            }
            size--;
            next = (next + DEPTH - 1) % DEPTH;
            int at = next * WIDTH;
            int number = rows[at + 1];
            if (rows[at] == OF_NET && number >= 0 && number < slots.length) {
                slots[number].size = rows[at + 2];
                System.arraycopy(rows, at + 3, slots[number].near, 0, MOST_NODES);
            } else if (rows[at] == OF_DECK && number >= 0 && number < decks.length) {
                decks[number].size = rows[at + 2];
                System.arraycopy(rows, at + 3, decks[number].cards, 0, MOST_NODES);
            }
        }
    }
}
