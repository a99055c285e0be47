/** Brings texts and numbers onto a tape. */
final class Texts {
    private Texts() {
    }

    static int feed(GhostRota x, String text) {
        int size = 0;
        for (int i = 0; i < text.length(); i += 20) {
            size = x.feed(four(text, i), four(text, i + 4), four(text, i + 8), four(text, i + 12), four(text, i + 16));
        }
        return size;
    }

    private static int four(String text, int from) {
        int sum = 0;
        for (int i = from; i < from + 4; i++) {
            sum = sum << 8 | (i < text.length() ? text.charAt(i) & 255 : 'a');
        }
        return sum;
    }

    /** The tape must be empty before. */
    static int rota(GhostRota x, String text) {
        feed(x, text);
        return x.rota(text.length());
    }

    /** The tape must be empty before. */
    static int law(GhostRota x, String text) {
        feed(x, text);
        return x.law(text.length());
    }
}
