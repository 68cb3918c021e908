/** Feeds texts, twenty bytes a call, 0 behind the end. */
final class Tape {
    private Tape() {
    }

    /** One int of the text: the highest byte is the first sign. */
    private static int four(String text, int from) {
        int four = 0;
        for (int at = from; at < from + 4; at++) {
            four = four << 8 | (at < text.length() ? text.charAt(at) & 255 : 0);
        }
        return four;
    }

    /** What the last feed() answered; 0 for an empty text, which needs none. */
    static int feed(DeckBench bench, String text) {
        int answer = 0;
        for (int i = 0; i < text.length(); i += 20) {
            answer = bench.feed(four(text, i), four(text, i + 4), four(text, i + 8), four(text, i + 12),
                    four(text, i + 16));
        }
        return answer;
    }

    static int feed(DeckModel model, String text) {
        int answer = 0;
        for (int i = 0; i < text.length(); i += 20) {
            answer = model.feed(four(text, i), four(text, i + 4), four(text, i + 8), four(text, i + 12),
                    four(text, i + 16));
        }
        return answer;
    }

    static int tell(DeckBench bench, String text) {
        feed(bench, text);
        return bench.tell(text.length());
    }

    static String net(int slot, int nodes, int code) {
        return "net " + slot + " " + nodes + pairs(nodes, code) + ";";
    }

    static String deck(int deck, int[] cards) {
        StringBuilder text = new StringBuilder("deck " + deck + " " + cards.length);
        for (int card : cards) {
            text.append(" card").append(pairs(cards.length - 1, card));
        }
        return text.append(";").toString();
    }

    private static String pairs(int nodes, int code) {
        StringBuilder text = new StringBuilder();
        int bit = 0;
        for (int b = 1; b < nodes; b++) {
            for (int a = 0; a < b; a++) {
                if ((code >> bit & 1) != 0) {
                    text.append(' ').append(a).append(b);
                }
                bit++;
            }
        }
        return text.toString();
    }
}
