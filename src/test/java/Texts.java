import java.util.ArrayList;
import java.util.List;
import java.util.Random;

/** Random texts of benches: most without fault, some with a slip, some at the bounds. */
final class Texts {
    private final Random random;
    private final StringBuilder out = new StringBuilder();
    private final List<String> names = new ArrayList<>();

    Texts(Random random) {
        this.random = random;
    }

    String text() {
        int sort = random.nextInt(24);
        if (sort == 0) {
            return bounds();
        }
        if (sort == 1) {
            return noise();
        }
        valid();
        String text = out.toString();
        int slips = random.nextInt(3) == 0 ? 1 + random.nextInt(2) : 0;
        for (int i = 0; i < slips; i++) {
            text = slip(text);
        }
        return text;
    }

    private boolean chance(int n) {
        return random.nextInt(n) == 0;
    }

    private void valid() {
        int sets = chance(10) ? random.nextInt(14) : random.nextInt(4);
        int machines = chance(12) ? 1 + random.nextInt(5) : 1 + random.nextInt(3);
        String gap = "";
        for (int i = 0; i < sets; i++) {
            out.append(gap);
            set();
            gap = ";";
        }
        for (int i = 0; i < machines; i++) {
            out.append(gap);
            machine();
            gap = ";";
            if (chance(8)) {
                out.append(gap);
                set();
            }
        }
    }

    private void set() {
        String name = name();
        for (int i = 0; i < 5 && names.contains(name); i++) {
            name = name();
        }
        out.append("set ").append(name).append(' ');
        body(0);
        names.add(name);
    }

    private String name() {
        if (chance(40)) {
            return new String[] {"any", "end", "set", "abcdefg", "abcdefgh", "edges"}[random.nextInt(6)];
        }
        String[] some = {"a", "b", "c", "d", "xy", "zz", "setx", "en", "q", "machin"};
        return some[random.nextInt(some.length)] + (chance(2) ? "" : "" + (char) ('a' + random.nextInt(26)));
    }

    private void machine() {
        int states = chance(15) ? 1 + random.nextInt(13) : 1 + random.nextInt(5);
        out.append("machine ").append(states);
        int edges = chance(12) ? random.nextInt(26) : states + random.nextInt(2 + states);
        int frees = chance(12) ? random.nextInt(10) : random.nextInt(3);
        int ends = chance(15) ? 0 : Math.min(states, 1 + random.nextInt(2));
        boolean narrow = chance(2);
        List<Integer> told = new ArrayList<>();
        while (edges + frees + ends > 0) {
            int pick = random.nextInt(edges + frees + ends);
            out.append(';').append(chance(20) ? " " : "");
            if (pick < edges) {
                edges--;
                out.append("edge ").append(state(states)).append(' ').append(state(states)).append(' ');
                if (narrow) {
                    out.append('[').append(random.nextInt(3)).append(']');
                } else {
                    body(0);
                }
            } else if (pick < edges + frees) {
                frees--;
                out.append("free ").append(state(states)).append(' ').append(state(states));
            } else {
                ends--;
                int end = state(states);
                for (int i = 0; i < 9 && told.contains(end); i++) {
                    end = state(states);
                }
                told.add(end);
                out.append("end ").append(end);
            }
        }
    }

    private int state(int states) {
        return chance(200) ? states : random.nextInt(states);
    }

    private void body(int depth) {
        meet(depth);
        while (chance(4)) {
            out.append('|');
            meet(depth);
        }
    }

    private void meet(int depth) {
        part(depth);
        while (chance(4)) {
            out.append(chance(2) ? '&' : '-');
            part(depth);
        }
    }

    private void part(int depth) {
        int sort = random.nextInt(10);
        if (sort == 0 && depth < 6) {
            out.append('!');
            part(depth + 1);
        } else if (sort == 1 && depth < 6) {
            out.append('(');
            body(depth + 1);
            out.append(')');
        } else if (sort == 2) {
            out.append("any");
        } else if (sort <= 5 && !names.isEmpty()) {
            out.append(names.get(random.nextInt(names.size())));
        } else {
            out.append('[');
            range();
            while (chance(3)) {
                out.append(',');
                range();
            }
            out.append(']');
        }
    }

    private void range() {
        int low = letter();
        out.append(low);
        if (chance(2)) {
            int high = low + (chance(3) ? random.nextInt(5000) : random.nextInt(5));
            out.append(chance(20) ? " .. " : "..").append(chance(60) ? high : Math.min(high, 65535));
        }
    }

    private int letter() {
        int sort = random.nextInt(20);
        return sort == 0 ? 65535 - random.nextInt(5) : sort == 1 ? random.nextInt(66000) : random.nextInt(12);
    }

    private String slip(String text) {
        int at = random.nextInt(text.length() + 1);
        String[] signs = {";", "|", "&", "-", "!", "(", ")", "[", "]", ",", "..", ".", " ", "#", "A", "any", "set ",
            "machine", " 0 ", "7", "99999", "edge ", "end ", "a", "\u00e9", "\n", "free 0 0;"};
        switch (random.nextInt(4)) {
            case 0:
                return text.substring(0, at) + signs[random.nextInt(signs.length)] + text.substring(at);
            case 1:
                return text.substring(0, at) + text.substring(Math.min(text.length(), at + 1 + random.nextInt(3)));
            case 2:
                return text.substring(0, at);
            default:
                int other = random.nextInt(text.length() + 1);
                return text.substring(0, at) + text.substring(Math.min(at, other), Math.max(at, other))
                        + text.substring(at);
        }
    }

    private String noise() {
        String letters = "set machine edge free end any ab;|&-!()[],..0123456789 ";
        StringBuilder noise = new StringBuilder();
        for (int i = random.nextInt(60); i > 0; i--) {
            noise.append(letters.charAt(random.nextInt(letters.length())));
        }
        return noise.toString();
    }

    private String bounds() {
        StringBuilder text = new StringBuilder();
        int n;
        switch (random.nextInt(6)) {
            case 0:
                n = 11 + random.nextInt(3);
                text.append("machine 1;end 0;edge 0 0 ");
                for (int i = 0; i < n; i++) {
                    text.append(chance(2) ? '!' : '(');
                }
                text.append("[3]");
                text.append(")".repeat((int) text.chars().filter(c -> c == '(').count()));
                return text.toString();
            case 1:
                n = 23 + random.nextInt(3);
                text.append("set a ").append(singles(0, n)).append(chance(2) ? "" : "&" + singles(0, 24));
                return text.append(chance(2) ? " ;machine 1;edge 0 0 a" : " ]").toString();
            case 2:
                n = 62 + random.nextInt(4);
                text.append("machine 2;end 1");
                for (int i = 0; i < n; i += 21) {
                    text.append(";edge 0 ").append(random.nextInt(2)).append(' ')
                            .append(singles(i, Math.min(21, n - i)));
                }
                return text.append(chance(2) ? "" : ";edge 0 0 [65535]").toString();
            case 3:
                n = 4 + random.nextInt(4);
                text.append("machine ").append(n).append(";edge 0 0 any;edge 0 1 [1]");
                for (int i = 1; i + 1 < n; i++) {
                    text.append(";edge ").append(i).append(' ').append(i + 1).append(chance(5) ? " [1]" : " any");
                }
                return text.append(";end ").append(n - 1).toString();
            case 4:
                text.append("machine 1");
                for (int i = 22 + random.nextInt(4); i > 0; i--) {
                    text.append(";edge 0 0[").append(i).append(']');
                }
                for (int i = 6 + random.nextInt(4); i > 0; i--) {
                    text.append(";free 0 0");
                }
                return text.toString();
            default:
                for (int i = 11 + random.nextInt(3); i > 0; i--) {
                    text.append("set ").append((char) ('a' + i)).append(" any;");
                }
                for (int i = 3 + random.nextInt(3); i > 0; i--) {
                    text.append("machine 12;");
                }
                return text.append("end 11").toString();
        }
    }

    /** Ranges of one letter each, from the i-th on. */
    private String singles(int i, int n) {
        StringBuilder text = new StringBuilder("[");
        for (int j = 0; j < n; j++) {
            text.append(j == 0 ? "" : ",").append(2 * (i + j) + 1);
        }
        return text.append(']').toString();
    }
}
