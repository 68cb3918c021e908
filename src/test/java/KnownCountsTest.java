import java.util.ArrayList;
import java.util.HashSet;
import java.util.List;
import java.util.Set;
import java.util.TreeSet;

/** Counts over all nets of n nodes that are known from books, so that they rest on no reading of this project's own. */
public final class KnownCountsTest {
    private static final int MOST_NODES = 7;
    private static final int MOST_CALLS = 400;

    /** How many nets of 0, 1 .. 7 nodes there are, none alike. */
    private static final int[] NETS = {1, 1, 2, 4, 11, 34, 156, 1044};
    /** And of these: of one piece, of like degrees, trees, two-sided, with a ring of all, alike what they have not. */
    private static final int[][] OF_CLASS = {
        {0, 1, 1, 2, 6, 21, 112, 853},
        {0, 1, 2, 2, 4, 3, 8, 6},
        {0, 1, 1, 1, 2, 3, 6, 11},
        {0, 1, 2, 3, 7, 13, 35, 88},
        {0, 0, 0, 1, 3, 8, 48, 383},
        {0, 1, 0, 0, 1, 2, 0, 0},
    };
    private static final int[] WITHOUT_SYMMETRY = {1, 1, 0, 0, 0, 0, 8, 152};
    private static final int[] OF_ONE_ORBIT = {0, 1, 2, 2, 4, 3, 8, 4};
    private static final int[] UNLIKE_DETERMINANTS = {1, 1, 2, 4, 11, 33, 151, 988};
    /** Unlike decks: two nets of two nodes have one, and from three nodes on each net its own. */
    private static final int[] UNLIKE_DECKS = {0, 0, 1, 4, 11, 34, 156, 1044};
    /** Numbered trees: nodes to the power of nodes less two. */
    private static final int[] TREES_OF_ALL_LINES = {0, 1, 1, 3, 16, 125, 1296, 16807};
    /** Two lines apart or not, three lines as a ring or a star: with the same lines taken away. */
    private static final int[] WITH_RIVALS = {0, 0, 0, 0, 4, 4};

    private final List<TreeSet<Integer>> formsOf = new ArrayList<>();
    private DeckBench bench = new DeckBench();
    private int calls = 0;
    private int wrong = 0;

    private void due(String what, int nodes, long got, long want) {
        if (got != want) {
            wrong++;
            System.out.println(what + " of " + nodes + " nodes: " + got + ", known are " + want);
        }
    }

    /** An object with a net in slot 0 that still has many calls before it. */
    private DeckBench with(int nodes, int code) {
        if (calls > MOST_CALLS) {
            bench = new DeckBench();
            calls = 0;
        }
        for (int left = bench.net(0, 0); left > 0; left--) {
            bench.drop(0, 0);
        }
        for (int b = 0; b < nodes; b++) {
            bench.grow(0, code >> b * (b - 1) / 2 & (1 << b) - 1);
        }
        calls += 40;
        return bench;
    }

    private void findForms() {
        TreeSet<Integer> none = new TreeSet<>();
        none.add(0);
        formsOf.add(none);
        for (int nodes = 1; nodes <= MOST_NODES; nodes++) {
            TreeSet<Integer> forms = new TreeSet<>();
            int last = nodes - 1;
            for (int smaller : formsOf.get(last)) {
                for (int joints = 0; joints < 1 << last; joints++) {
                    forms.add(with(nodes, smaller | joints << last * (last - 1) / 2).net(0, 3));
                }
            }
            formsOf.add(forms);
            due("nets", nodes, forms.size(), NETS[nodes]);
        }
    }

    private void classes(int nodes) {
        for (int which = 0; which < OF_CLASS.length; which++) {
            int some = 0;
            for (int form : formsOf.get(nodes)) {
                some += with(nodes, form).is(0, which);
            }
            due("nets of class " + which, nodes, some, OF_CLASS[which][nodes]);
        }
    }

    private void symmetries(int nodes) {
        long numberings = 1;
        for (int i = 2; i <= nodes; i++) {
            numberings *= i;
        }
        long codes = 0;
        int none = 0;
        int oneOrbit = 0;
        for (int form : formsOf.get(nodes)) {
            DeckBench x = with(nodes, form);
            int symmetries = x.net(0, 4);
            due("numberings less whole symmetries", nodes, numberings % symmetries, 0);
            codes += numberings / symmetries;
            none += symmetries == 1 ? 1 : 0;
            oneOrbit += x.net(0, 6) == 1 ? 1 : 0;
        }
        due("codes", nodes, codes, 1L << nodes * (nodes - 1) / 2);
        due("nets without symmetry", nodes, none, WITHOUT_SYMMETRY[nodes]);
        due("nets of one orbit", nodes, oneOrbit, OF_ONE_ORBIT[nodes]);
    }

    private void determinants(int nodes) {
        Set<String> unlike = new HashSet<>();
        for (int form : formsOf.get(nodes)) {
            DeckBench x = with(nodes, form);
            StringBuilder all = new StringBuilder();
            for (int k = 0; k <= nodes; k++) {
                all.append(x.term(0, k) - 10000).append(' ');
            }
            unlike.add(all.toString());
        }
        due("determinants", nodes, unlike.size(), UNLIKE_DETERMINANTS[nodes]);
    }

    private void decks(int nodes) {
        Set<String> unlike = new HashSet<>();
        for (int form : formsOf.get(nodes)) {
            DeckBench x = with(nodes, form);
            x.deal(0, 0);
            StringBuilder all = new StringBuilder();
            for (int i = 0; i < nodes; i++) {
                all.append(x.card(0, i)).append(' ');
            }
            unlike.add(all.toString());
            due("answers", nodes, x.answers(0, -1), nodes == 2 ? 2 : 1);
        }
        due("decks", nodes, unlike.size(), UNLIKE_DECKS[nodes]);
    }

    /** Known for LEAST: three cards are enough, but for three nets of four nodes. */
    private void cardsThatTell(int nodes) {
        int three = 0;
        int four = 0;
        for (int form : formsOf.get(nodes)) {
            int least = with(nodes, form).least(0, 0);
            three += least == 3 ? 1 : 0;
            four += least == 4 ? 1 : 0;
        }
        due("nets told by four cards", nodes, four, nodes == 4 ? 3 : 0);
        due("nets told by three cards", nodes, three, NETS[nodes] - four);
    }

    private void rivals(int nodes) {
        int some = 0;
        for (int form : formsOf.get(nodes)) {
            some += with(nodes, form).rivals(0) > 0 ? 1 : 0;
        }
        due("nets with rivals", nodes, some, WITH_RIVALS[nodes]);
    }

    public static void main(String[] args) {
        KnownCountsTest test = new KnownCountsTest();
        test.findForms();
        for (int nodes = 0; nodes <= MOST_NODES; nodes++) {
            test.classes(nodes);
            test.symmetries(nodes);
            test.determinants(nodes);
            int everyLine = (1 << nodes * (nodes - 1) / 2) - 1;
            test.due("trees of all lines", nodes, test.with(nodes, everyLine).trees(0), TREES_OF_ALL_LINES[nodes]);
            if (nodes >= 2) {
                test.decks(nodes);
            }
            if (nodes >= 3 && nodes <= 5) {
                test.cardsThatTell(nodes);
            }
            if (nodes >= 2 && nodes <= 5) {
                test.rivals(nodes);
            }
        }
        System.out.println(test.wrong == 0 ? "all counts are the known ones" : test.wrong + " counts are others");
        System.exit(test.wrong == 0 ? 0 : 1);
    }
}
