/** Texts of which several tests make their benches. */
final class Parts {
    private Parts() { }

    /** Ranges of one letter, with one letter between. */
    static String singles(int least, int n) {
        StringBuilder text = new StringBuilder("[");
        for (int i = 0; i < n; i++) {
            text.append(i == 0 ? "" : ",").append(least + 2 * i);
        }
        return text.append(']').toString();
    }

    /** A machine that goes round through n states by any letters. */
    static String ring(int n, int end) {
        StringBuilder text = new StringBuilder("machine ").append(n).append(";end ").append(end);
        for (int i = 0; i < n; i++) {
            text.append(edge(i, (i + 1) % n, "any"));
        }
        return text.toString();
    }

    /** A machine that takes words of n letters, whatever they are. */
    static String chain(int n) {
        return "machine " + (n + 1) + ";end " + n + steps(n);
    }

    /** Edges with any letter from each of n states to the next. */
    static String steps(int n) {
        StringBuilder text = new StringBuilder();
        for (int i = 0; i < n; i++) {
            text.append(edge(i, i + 1, "any"));
        }
        return text.toString();
    }

    /** The line of an edge, and what parts it from the one ahead. */
    static String edge(int from, int to, String body) {
        return ";edge " + from + " " + to + " " + body;
    }
}
