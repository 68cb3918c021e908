import java.util.ArrayDeque;
import java.util.ArrayList;
import java.util.Arrays;
import java.util.Deque;
import java.util.HashMap;
import java.util.List;
import java.util.Map;
import java.util.TreeSet;

/**
 * The document once more, by its words and by brute force: every numbering, every set of lines, every net.
 * It shares no code and no method of reckoning with DeckBench, so that both are seldom wrong alike.
 */
final class DeckModel {
    static final int NONE = -1;
    private static final int[][] FORMS = new int[8][];
    private static final List<List<int[]>> NUMBERINGS = new ArrayList<>();
    private static final List<Map<String, List<Integer>>> BY_DECK = new ArrayList<>();

    static {
        for (int n = 0; n <= 7; n++) {
            List<int[]> all = new ArrayList<>();
            addNumberings(all, new int[n], 0, 0);
            NUMBERINGS.add(all);
            FORMS[n] = formsOf(n);
        }
        for (int n = 0; n <= 7; n++) {
            Map<String, List<Integer>> byDeck = new HashMap<>();
            for (int form : n < 2 ? new int[0] : classes(n)) {
                byDeck.computeIfAbsent(Arrays.toString(deckOf(n, form)), k -> new ArrayList<>()).add(form);
            }
            BY_DECK.add(byDeck);
        }
    }

    private static void addNumberings(List<int[]> all, int[] p, int at, int used) {
        if (at == p.length) {
            all.add(p.clone());
            return;
        }
        for (int v = 0; v < p.length; v++) {
            if ((used >> v & 1) == 0) {
                p[at] = v;
                addNumberings(all, p, at + 1, used | 1 << v);
            }
        }
    }

    private static int bit(int a, int b) {
        int hi = Math.max(a, b);
        return hi * (hi - 1) / 2 + Math.min(a, b);
    }

    private static int renumber(int n, int code, int[] p) {
        int out = 0;
        for (int b = 1; b < n; b++) {
            for (int a = 0; a < b; a++) {
                if ((code >> bit(a, b) & 1) != 0) {
                    out |= 1 << bit(p[a], p[b]);
                }
            }
        }
        return out;
    }

    private static int[] formsOf(int n) {
        int[] form = new int[1 << n * (n - 1) / 2];
        Arrays.fill(form, NONE);
        for (int code = 0; code < form.length; code++) {
            if (form[code] == NONE) {
                for (int[] p : NUMBERINGS.get(n)) {
                    form[renumber(n, code, p)] = code;
                }
            }
        }
        return form;
    }

    static int[] classes(int n) {
        TreeSet<Integer> all = new TreeSet<>();
        for (int form : FORMS[n]) {
            all.add(form);
        }
        return all.stream().mapToInt(Integer::intValue).toArray();
    }

    static int[] without(int n, int code, int node) {
        int out = 0;
        for (int b = 0; b < n; b++) {
            for (int a = 0; a < b; a++) {
                if (a != node && b != node && (code >> bit(a, b) & 1) != 0) {
                    out |= 1 << bit(a > node ? a - 1 : a, b > node ? b - 1 : b);
                }
            }
        }
        return new int[] {n - 1, out};
    }

    static int[] deckOf(int n, int code) {
        int[] deck = new int[n];
        for (int v = 0; v < n; v++) {
            deck[v] = FORMS[n - 1][without(n, code, v)[1]];
        }
        Arrays.sort(deck);
        return deck;
    }

    private static boolean joined(int code, int a, int b) {
        return a != b && (code >> bit(a, b) & 1) != 0;
    }

    private static int[][] distances(int n, int code) {
        int[][] d = new int[n][n];
        for (int a = 0; a < n; a++) {
            for (int b = 0; b < n; b++) {
                d[a][b] = a == b ? 0 : joined(code, a, b) ? 1 : 99;
            }
        }
        for (int m = 0; m < n; m++) {
            for (int a = 0; a < n; a++) {
                for (int b = 0; b < n; b++) {
                    d[a][b] = Math.min(d[a][b], d[a][m] + d[m][b]);
                }
            }
        }
        return d;
    }

    private static int pieces(int n, int code) {
        int[][] d = distances(n, code);
        int pieces = 0;
        for (int v = 0; v < n; v++) {
            boolean first = true;
            for (int w = 0; w < v; w++) {
                first &= d[v][w] >= 99;
            }
            pieces += first ? 1 : 0;
        }
        return pieces;
    }

    private static boolean[][] orbits(int n, int code) {
        boolean[][] same = new boolean[n][n];
        for (int[] p : NUMBERINGS.get(n)) {
            if (renumber(n, code, p) == code) {
                for (int v = 0; v < n; v++) {
                    same[v][p[v]] = true;
                }
            }
        }
        return same;
    }

    private static int symmetries(int n, int code) {
        int some = 0;
        for (int[] p : NUMBERINGS.get(n)) {
            some += renumber(n, code, p) == code ? 1 : 0;
        }
        return some;
    }

    static int parts(int pn, int pForm, int n, int code) {
        int some = 0;
        for (int set = 0; set < 1 << n; set++) {
            if (Integer.bitCount(set) != pn) {
                continue;
            }
            int[] left = {n, code};
            for (int v = n - 1; v >= 0; v--) {
                if ((set >> v & 1) == 0) {
                    left = without(left[0], left[1], v);
                }
            }
            some += FORMS[pn][left[1]] == pForm ? 1 : 0;
        }
        return some;
    }

    private static int determinant(int[][] m, List<Integer> rows) {
        int k = rows.size();
        int sum = 0;
        for (int[] p : NUMBERINGS.get(k)) {
            int term = 1;
            for (int i = 0; i < k; i++) {
                term *= m[rows.get(i)][rows.get(p[i])];
                for (int j = 0; j < i; j++) {
                    term *= p[j] > p[i] ? -1 : 1;
                }
            }
            sum += term;
        }
        return sum;
    }

    static int coefficient(int n, int code, int k) {
        int[][] m = new int[n][n];
        for (int a = 0; a < n; a++) {
            for (int b = 0; b < n; b++) {
                m[a][b] = joined(code, a, b) ? -1 : 0;
            }
        }
        int sum = 0;
        for (int set = 0; set < 1 << n; set++) {
            if (Integer.bitCount(set) == k) {
                List<Integer> rows = new ArrayList<>();
                for (int v = 0; v < n; v++) {
                    if ((set >> v & 1) != 0) {
                        rows.add(v);
                    }
                }
                sum += determinant(m, rows);
            }
        }
        return sum;
    }

    static int trees(int n, int code) {
        int some = 0;
        for (int set = code; set > 0; set = set - 1 & code) {
            if (Integer.bitCount(set) == n - 1 && pieces(n, set) == 1) {
                some++;
            }
        }
        return n == 1 ? 1 : some;
    }

    static boolean ofClass(int n, int code, int what) {
        if (n == 0) {
            return false;
        }
        int[][] d = distances(n, code);
        switch (what) {
            case 0:
                return pieces(n, code) == 1;
            case 1:
                int[] degrees = new int[n];
                for (int v = 0; v < n; v++) {
                    degrees[v] = degree(n, code, v);
                }
                return Arrays.stream(degrees).distinct().count() == 1;
            case 2:
                return pieces(n, code) == 1 && Integer.bitCount(code) == n - 1;
            case 3:
                for (int a = 0; a < n; a++) {
                    for (int b = 0; b < n; b++) {
                        for (int c = 0; c < n; c++) {
                            if (joined(code, a, b) && d[c][a] < 99 && d[c][a] == d[c][b]) {
                                return false;
                            }
                        }
                    }
                }
                return true;
            case 4:
                for (int[] p : n < 3 ? new ArrayList<int[]>() : NUMBERINGS.get(n)) {
                    boolean ring = true;
                    for (int i = 0; i < n; i++) {
                        ring &= joined(code, p[i], p[(i + 1) % n]);
                    }
                    if (ring) {
                        return true;
                    }
                }
                return false;
            default:
                return FORMS[n][code] == FORMS[n][FORMS[n].length - 1 ^ code];
        }
    }

    private static int degree(int n, int code, int v) {
        int degree = 0;
        for (int w = 0; w < n; w++) {
            degree += joined(code, v, w) ? 1 : 0;
        }
        return degree;
    }

    static int[] lineDeckOf(int n, int code) {
        List<Integer> all = new ArrayList<>();
        for (int i = 0; i < n * (n - 1) / 2; i++) {
            if ((code >> i & 1) != 0) {
                all.add(FORMS[n][code ^ 1 << i]);
            }
        }
        return all.stream().sorted().mapToInt(Integer::intValue).toArray();
    }

    private static boolean includes(int[] deck, List<Integer> some) {
        List<Integer> left = new ArrayList<>();
        for (int card : deck) {
            left.add(card);
        }
        for (Integer card : some) {
            if (!left.remove(card)) {
                return false;
            }
        }
        return true;
    }

    private static boolean tells(int n, int form, List<Integer> some) {
        for (int other : classes(n)) {
            if (other != form && includes(deckOf(n, other), some)) {
                return false;
            }
        }
        return true;
    }

    /** {LEAST, SURE} by trying every choice of cards. */
    static int[] telling(int n, int code) {
        int[] deck = deckOf(n, code);
        boolean[] one = new boolean[n + 1];
        boolean[] all = new boolean[n + 1];
        Arrays.fill(all, true);
        for (int set = 0; set < 1 << n; set++) {
            List<Integer> some = new ArrayList<>();
            for (int i = 0; i < n; i++) {
                if ((set >> i & 1) != 0) {
                    some.add(deck[i]);
                }
            }
            boolean tells = tells(n, FORMS[n][code], some);
            one[some.size()] |= tells;
            all[some.size()] &= tells;
        }
        int least = 0;
        int sure = 0;
        while (!one[least]) {
            least++;
        }
        while (!all[sure]) {
            sure++;
        }
        return new int[] {least, sure};
    }

    static List<Integer> answersOf(int[] deck) {
        return BY_DECK.get(deck.length).getOrDefault(Arrays.toString(deck), new ArrayList<>());
    }

    static int reasonOf(int[] deck) {
        int n = deck.length;
        int sum = Arrays.stream(deck).map(Integer::bitCount).sum();
        if (n >= 3 && sum % (n - 2) != 0) {
            return 1;
        }
        for (int card : deck) {
            int degree = n >= 3 ? sum / (n - 2) - Integer.bitCount(card) : 0;
            if (degree < 0 || degree > n - 1) {
                return 2;
            }
        }
        for (int form : n >= 4 ? classes(3) : new int[0]) {
            int parts = 0;
            for (int card : deck) {
                parts += parts(3, form, n - 1, card);
            }
            if (parts % (n - 3) != 0) {
                return 3;
            }
        }
        return answersOf(deck).isEmpty() ? 4 : 0;
    }

    // ---- the object

    private int[][] slots = new int[6][2];
    private int[][] decks = new int[3][];
    private final List<Integer> tape = new ArrayList<>();
    private final Deque<Object[]> acts = new ArrayDeque<>();
    private int faultKind = 0;
    private int faultPlace = NONE;

    private void act() {
        int[][] oldSlots = new int[6][];
        for (int i = 0; i < 6; i++) {
            oldSlots[i] = slots[i].clone();
        }
        acts.addLast(new Object[] {oldSlots, decks.clone()});
        if (acts.size() > 10) {
            acts.removeFirst();
        }
    }

    private boolean slotIs(int slot) {
        return slot >= 0 && slot <= 5;
    }

    private boolean nodeIs(int slot, int node) {
        return slotIs(slot) && node >= 0 && node < slots[slot][0];
    }

    private boolean deckIs(int deck) {
        return deck >= 0 && deck <= 2 && decks[deck] != null;
    }

    private boolean cardIs(int deck, int card) {
        return deckIs(deck) && card >= 0 && card < decks[deck].length;
    }

    int feed(int... ints) {
        if (tape.size() + 20 > 600) {
            return -4;
        }
        for (int i : ints) {
            tape.add(i >> 24 & 255);
            tape.add(i >> 16 & 255);
            tape.add(i >> 8 & 255);
            tape.add(i & 255);
        }
        return tape.size();
    }

    int tell(int n) {
        if (n < 0 || n > tape.size()) {
            return -3;
        }
        StringBuilder text = new StringBuilder();
        for (int i = 0; i < n; i++) {
            text.append((char) (int) tape.get(i));
        }
        tape.clear();
        DeckText read = new DeckText(text.toString());
        faultKind = read.fault;
        faultPlace = read.place;
        if (faultKind != 0) {
            return -30 - faultKind;
        }
        slots = read.slots;
        decks = new int[3][];
        for (int i = 0; i < 3; i++) {
            if (read.decks[i] != null) {
                int size = read.decks[i].length;
                decks[i] = Arrays.stream(read.decks[i]).map(c -> FORMS[size - 1][c]).sorted().toArray();
            }
        }
        acts.clear();
        return read.lines;
    }

    int fault(int what) {
        return what == 0 ? faultKind : what == 1 ? faultPlace : NONE;
    }

    int join(int slot, int a, int b) {
        if (!nodeIs(slot, a) || !nodeIs(slot, b) || a == b) {
            return -2;
        }
        act();
        slots[slot][1] ^= 1 << bit(a, b);
        return Integer.bitCount(slots[slot][1]);
    }

    int grow(int slot, int nodes) {
        if (!slotIs(slot)) {
            return -2;
        }
        int n = slots[slot][0];
        if (nodes < 0 || nodes >= 1 << n) {
            return -3;
        }
        if (n == 7) {
            return -4;
        }
        act();
        slots[slot] = new int[] {n + 1, slots[slot][1] + (nodes << n * (n - 1) / 2)};
        return n + 1;
    }

    int drop(int slot, int node) {
        if (!nodeIs(slot, node)) {
            return -2;
        }
        act();
        slots[slot] = without(slots[slot][0], slots[slot][1], node);
        return slots[slot][0];
    }

    int turn(int slot, int to) {
        if (!slotIs(slot) || !slotIs(to)) {
            return -2;
        }
        act();
        int n = slots[slot][0];
        slots[to] = new int[] {n, FORMS[n].length - 1 - slots[slot][1]};
        return Integer.bitCount(slots[to][1]);
    }

    int put(int slot, int to) {
        if (!slotIs(slot) || !slotIs(to)) {
            return -2;
        }
        act();
        slots[to] = new int[] {slots[slot][0], net(slot, 3)};
        return slots[to][0];
    }

    int deal(int slot, int deck) {
        if (!slotIs(slot) || deck < 0 || deck > 2) {
            return -2;
        }
        if (slots[slot][0] < 2) {
            return -5;
        }
        act();
        decks[deck] = deckOf(slots[slot][0], slots[slot][1]);
        return (int) Arrays.stream(decks[deck]).distinct().count();
    }

    int replace(int deck, int card, int slot) {
        if (!cardIs(deck, card) || !slotIs(slot)) {
            return -2;
        }
        if (slots[slot][0] != decks[deck].length - 1) {
            return -5;
        }
        act();
        decks[deck] = decks[deck].clone();
        int form = net(slot, 3);
        decks[deck][card] = form;
        Arrays.sort(decks[deck]);
        return (int) Arrays.stream(decks[deck]).filter(c -> c < form).count();
    }

    int solve(int deck, int slot) {
        if (!deckIs(deck) || !slotIs(slot)) {
            return -2;
        }
        List<Integer> answers = answersOf(decks[deck]);
        if (answers.isEmpty()) {
            return -5;
        }
        act();
        slots[slot] = new int[] {decks[deck].length, answers.get(0)};
        return Integer.bitCount(answers.get(0));
    }

    int undo() {
        if (acts.isEmpty()) {
            return -5;
        }
        Object[] old = acts.removeLast();
        slots = (int[][]) old[0];
        decks = (int[][]) old[1];
        return acts.size();
    }

    int net(int slot, int what) {
        if (!slotIs(slot) || what < 0 || what > 7) {
            return -2;
        }
        int n = slots[slot][0];
        int code = slots[slot][1];
        boolean[][] same = what >= 6 ? orbits(n, code) : null;
        int some = 0;
        switch (what) {
            case 0:
                return n;
            case 1:
                return Integer.bitCount(code);
            case 2:
                return code;
            case 3:
                return FORMS[n][code];
            case 4:
                return symmetries(n, code);
            case 5:
                return pieces(n, code);
            case 6:
                for (int v = 0; v < n; v++) {
                    some += node(slot, v, 2) == v ? 1 : 0;
                }
                return some;
            default:
                for (int a = 0; a < n; a++) {
                    for (int b = a + 1; b < n; b++) {
                        some += !same[a][b] && node(slot, a, 3) == node(slot, b, 3) ? 1 : 0;
                    }
                }
                return some;
        }
    }

    int node(int slot, int node, int what) {
        if (!nodeIs(slot, node) || what < 0 || what > 3) {
            return -2;
        }
        int n = slots[slot][0];
        int code = slots[slot][1];
        if (what == 0) {
            return degree(n, code, node);
        }
        if (what == 3) {
            return n == 1 ? NONE : FORMS[n - 1][without(n, code, node)[1]];
        }
        int bits = 0;
        for (int v = 0; v < n; v++) {
            bits |= joined(code, v, node) ? 1 << v : 0;
        }
        if (what == 1) {
            return bits;
        }
        boolean[][] same = orbits(n, code);
        int least = 0;
        while (!same[node][least]) {
            least++;
        }
        return least;
    }

    int alike(int one, int other) {
        if (!slotIs(one) || !slotIs(other)) {
            return -2;
        }
        return slots[one][0] == slots[other][0] && net(one, 3) == net(other, 3) ? 1 : 0;
    }

    int parts(int p, int slot) {
        if (!slotIs(p) || !slotIs(slot)) {
            return -2;
        }
        return parts(slots[p][0], net(p, 3), slots[slot][0], slots[slot][1]);
    }

    int least(int slot, int what) {
        if (!slotIs(slot) || what < 0 || what > 1) {
            return -2;
        }
        int n = slots[slot][0];
        return n < 3 || n > 5 ? -5 : telling(n, slots[slot][1])[what];
    }

    int rivals(int slot) {
        if (!slotIs(slot)) {
            return -2;
        }
        int n = slots[slot][0];
        if (n < 2 || n > 5) {
            return -5;
        }
        int some = 0;
        for (int other : classes(n)) {
            boolean same = Arrays.equals(lineDeckOf(n, other), lineDeckOf(n, slots[slot][1]));
            some += same && other != net(slot, 3) ? 1 : 0;
        }
        return some;
    }

    int lineDeck(int slot, int k) {
        if (!slotIs(slot)) {
            return -2;
        }
        if (k < NONE) {
            return -3;
        }
        int[] dealt = lineDeckOf(slots[slot][0], slots[slot][1]);
        if (k == NONE) {
            return (int) Arrays.stream(dealt).distinct().count();
        }
        return k < dealt.length ? dealt[k] : NONE;
    }

    int is(int slot, int what) {
        if (!slotIs(slot) || what < 0 || what > 5) {
            return -2;
        }
        return ofClass(slots[slot][0], slots[slot][1], what) ? 1 : 0;
    }

    int trees(int slot) {
        return slotIs(slot) ? trees(slots[slot][0], slots[slot][1]) : -2;
    }

    int term(int slot, int k) {
        if (!slotIs(slot)) {
            return -2;
        }
        return k < 0 || k > slots[slot][0] ? -3 : 10000 + coefficient(slots[slot][0], slots[slot][1], k);
    }

    int far(int slot, int a, int b) {
        if (!nodeIs(slot, a) || !nodeIs(slot, b)) {
            return -2;
        }
        int far = distances(slots[slot][0], slots[slot][1])[a][b];
        return far >= 99 ? NONE : far;
    }

    int card(int deck, int card) {
        if (deck < 0 || deck > 2) {
            return -2;
        }
        if (card == NONE) {
            return decks[deck] == null ? NONE : decks[deck].length;
        }
        return cardIs(deck, card) ? decks[deck][card] : -2;
    }

    int common(int one, int other) {
        if (!deckIs(one) || !deckIs(other)) {
            return -2;
        }
        if (decks[one].length != decks[other].length) {
            return 0;
        }
        List<Integer> left = new ArrayList<>();
        for (int card : decks[one]) {
            left.add(card);
        }
        int some = 0;
        for (Integer card : decks[other]) {
            some += left.remove(card) ? 1 : 0;
        }
        return some;
    }

    int told(int deck, int what) {
        if (!deckIs(deck) || what < 0 || what > 4) {
            return -2;
        }
        int n = decks[deck].length;
        if (what == 4) {
            return (int) Arrays.stream(decks[deck]).filter(c -> pieces(n - 1, c) == 1).count();
        }
        int sum = Arrays.stream(decks[deck]).map(Integer::bitCount).sum();
        if (n == 2 || sum % (n - 2) != 0) {
            return NONE;
        }
        int[] degrees = Arrays.stream(decks[deck]).map(c -> sum / (n - 2) - Integer.bitCount(c)).sorted().toArray();
        switch (what) {
            case 0:
                return sum / (n - 2);
            case 1:
                return degrees[n - 1] + 100;
            case 2:
                return degrees[0] + 100;
            default:
                return degrees[0] == degrees[n - 1] ? 1 : 0;
        }
    }

    int degree(int deck, int card) {
        if (!cardIs(deck, card)) {
            return -2;
        }
        int lines = told(deck, 0);
        return lines == NONE ? NONE : 100 + lines - Integer.bitCount(decks[deck][card]);
    }

    int toldParts(int deck, int p) {
        if (!deckIs(deck) || !slotIs(p)) {
            return -2;
        }
        int n = decks[deck].length;
        int pn = slots[p][0];
        if (pn < 1 || pn >= n || n == 2) {
            return -5;
        }
        int sum = 0;
        for (int card : decks[deck]) {
            sum += parts(pn, net(p, 3), n - 1, card);
        }
        return sum % (n - pn) == 0 ? sum / (n - pn) : NONE;
    }

    int toldTerm(int deck, int k) {
        if (!deckIs(deck)) {
            return -2;
        }
        int n = decks[deck].length;
        if (k < 0 || k >= n) {
            return -3;
        }
        int sum = 0;
        for (int card : decks[deck]) {
            sum += coefficient(n - 1, card, k);
        }
        return sum % (n - k) == 0 ? 10000 + sum / (n - k) : NONE;
    }

    int proved(int deck, int what) {
        if (!deckIs(deck) || what < 0 || what > 5) {
            return -2;
        }
        int n = decks[deck].length;
        List<Integer> answers = answersOf(decks[deck]);
        boolean all = answers.stream().allMatch(a -> ofClass(n, a, what));
        boolean none = answers.stream().noneMatch(a -> ofClass(n, a, what));
        return all == none ? NONE : all ? 1 : 0;
    }

    int reason(int deck) {
        return deckIs(deck) ? reasonOf(decks[deck]) : -2;
    }

    int answers(int deck, int k) {
        if (!deckIs(deck)) {
            return -2;
        }
        if (k < NONE) {
            return -3;
        }
        List<Integer> answers = answersOf(decks[deck]);
        return k == NONE ? answers.size() : k < answers.size() ? answers.get(k) : NONE;
    }

    int mends(int deck, int card) {
        if (!cardIs(deck, card)) {
            return -2;
        }
        int n = decks[deck].length;
        if (n < 3 || n > 5) {
            return -5;
        }
        int some = 0;
        for (int other : classes(n - 1)) {
            int[] mended = decks[deck].clone();
            mended[card] = other;
            Arrays.sort(mended);
            some += reasonOf(mended) == 0 ? 1 : 0;
        }
        return some;
    }

    int count(int what) {
        switch (what) {
            case 0:
                return acts.size();
            case 1:
                return tape.size();
            case 2:
                return (int) Arrays.stream(slots).filter(s -> s[0] > 0).count();
            case 3:
                return (int) Arrays.stream(decks).filter(d -> d != null).count();
            default:
                return what >= 10 && what <= 15 ? classes(what - 10).length : NONE;
        }
    }
}

/** The text's grammar as a table of states, one token after the other. */
final class DeckText {
    final int[][] slots = new int[6][2];
    final int[][] decks = new int[3][];
    int lines = 0;
    int fault = 0;
    int place = DeckModel.NONE;

    private String state = "line";
    private int number;
    private int nodes;
    private int code;
    private final List<Integer> cards = new ArrayList<>();

    DeckText(String text) {
        java.util.regex.Matcher m = java.util.regex.Pattern
                .compile("[0-9]+|[a-z]+|[^ ]|$(?![\\r\\n])", java.util.regex.Pattern.DOTALL).matcher(text);
        int end = -1;
        while (fault == 0 && m.find()) {
            step(m.group(), m.group().isEmpty() ? text.length() : m.start());
            end = m.end();
        }
        if (fault == 0 && end != text.length()) {
            throw new IllegalStateException("not read to the end: " + text);
        }
    }

    private void step(String token, int at) {
        int found = next(token);
        if (found != 0) {
            fault = found;
            place = at;
        }
    }

    private int next(String token) {
        switch (state) {
            case "line":
                state = token.equals("net") ? "slot" : token.equals("deck") ? "deck" : "line";
                return !state.equals("line") || token.isEmpty() ? 0 : 1;
            case "slot":
                return digit(token, 0, 5, "net nodes");
            case "deck":
                return digit(token, 0, 2, "deck nodes");
            case "net nodes":
                return digit(token, 0, 7, "net pairs");
            case "deck nodes":
                cards.clear();
                return digit(token, 2, 7, "first card");
            case "first card":
                return token.equals("card") ? card() : 1;
            case "net pairs":
                if (token.equals(";")) {
                    slots[number] = new int[] {nodes, code};
                    return endOfLine();
                }
                return isNumber(token) ? pair(token, nodes) : 1;
            default:
                return cardPairs(token);
        }
    }

    private int cardPairs(String token) {
        if (isNumber(token)) {
            return pair(token, nodes - 1);
        }
        if (token.equals("card")) {
            cards.add(code);
            return cards.size() == nodes ? 4 : card();
        }
        if (!token.equals(";")) {
            return 1;
        }
        cards.add(code);
        if (cards.size() < nodes) {
            return 4;
        }
        decks[number] = cards.stream().mapToInt(Integer::intValue).toArray();
        return endOfLine();
    }

    private int card() {
        code = 0;
        state = "card pairs";
        return 0;
    }

    private int endOfLine() {
        lines++;
        state = "line";
        return 0;
    }

    private static boolean isNumber(String token) {
        return token.matches("[0-9]+");
    }

    private int digit(String token, int low, int high, String then) {
        if (!isNumber(token)) {
            return 1;
        }
        if (token.length() > 1 || Integer.parseInt(token) < low || Integer.parseInt(token) > high) {
            return 2;
        }
        if (state.endsWith("nodes")) {
            nodes = Integer.parseInt(token);
        } else {
            number = Integer.parseInt(token);
        }
        state = then;
        code = 0;
        return 0;
    }

    private int pair(String token, int size) {
        if (token.length() != 2) {
            return 2;
        }
        int low = Math.min(token.charAt(0), token.charAt(1)) - '0';
        int high = Math.max(token.charAt(0), token.charAt(1)) - '0';
        if (high >= size || low == high || (code >> high * (high - 1) / 2 + low & 1) != 0) {
            return 3;
        }
        code |= 1 << high * (high - 1) / 2 + low;
        return 0;
    }
}
