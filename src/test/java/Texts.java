import java.util.ArrayList;
import java.util.List;
import java.util.Random;

/** Makes setup texts, lists of nodes and conditions by chance: mostly right ones, some spoilt. */
final class Texts {
    private static final String[] POOL = {"a", "b", "c", "d", "e", "f", "g", "h", "i", "j", "k", "l",
        "m", "n", "o", "p", "q", "r", "s", "t", "u", "v", "w", "x", "y", "z", "ab", "pet", "job", "abcdefgh",
        "zzzzzz", "formx", "nots", "orand", "iff", "abcdefg", "zzzzzzzz", "abcdef"};
    private final Random random;
    private final List<String> fields = new ArrayList<>();
    private final List<String> used = new ArrayList<>();
    private final StringBuilder out = new StringBuilder();
    private int fresh;
    private boolean calm;
    private boolean clean;
    private int room;

    Texts(Random random) {
        this.random = random;
    }

    /**
     * Makes a text of a kind: 0 setup, 1 nodes, 2 a condition; known are names of fields that its
     * conditions may ask for, taken the names that nodes have already.
     */
    String make(int kind, List<String> known, List<String> taken, int nodes) {
        out.setLength(0);
        fields.clear();
        fields.addAll(known);
        used.clear();
        used.addAll(taken);
        calm = random.nextInt(3) != 0;
        clean = random.nextInt(3) != 0;
        room = 1100;
        fresh = random.nextInt(POOL.length);
        if (kind == 0) {
            word("form");
            word("" + (14 + random.nextInt(random.nextBoolean() ? 47 : 12)));
            word("" + (14 + random.nextInt(random.nextBoolean() ? 47 : 12)));
            word("" + (1 + random.nextInt(random.nextBoolean() ? 60 : 4)));
            sign(";");
        }
        if (kind == 2) {
            condition(random.nextInt(12) == 0 ? 40 : 5);
        } else {
            nodes(nodes, 1);
        }
        String text = out.toString();
        if (!clean && random.nextInt(3) == 0) {
            text = spoil(text);
        }
        return text.length() > 1200 ? text.substring(0, 1200) : text;
    }

    private String spoil(String text) {
        StringBuilder spoilt = new StringBuilder(text);
        int times = 1 + random.nextInt(2);
        for (int i = 0; i < times && spoilt.length() > 0; i++) {
            int at = random.nextInt(spoilt.length());
            switch (random.nextInt(6)) {
                case 0: spoilt.deleteCharAt(at); break;
                case 1: spoilt.setLength(at); break;
                case 2: spoilt.insert(at, " ;{}()=<>a0\n"); break;
                case 3: spoilt.setCharAt(at, (char) random.nextInt(256)); break;
                case 4: spoilt.insert(at, ";{}()=<>az09 \n".charAt(random.nextInt(14))); break;
                default: spoilt.delete(at, Math.min(spoilt.length(), at + 4));
            }
        }
        return spoilt.toString();
    }

    private void nodes(int count, int depth) {
        for (int left = count; left > 0 && out.length() < room; left--) {
            if (random.nextInt(4) == 0 && (depth <= 4 || slip(12))) {
                word("group");
                word(newName());
                ifPart();
                sign("{");
                int inside = random.nextInt(4);
                nodes(Math.min(inside, left), depth + 1);
                left -= inside;
                sign("}");
            } else {
                field();
            }
        }
    }

    private void field() {
        switch (random.nextInt(3)) {
            case 0:
                word("number");
                int low = random.nextInt(4) == 0 ? random.nextInt(10000) : random.nextInt(3);
                word((random.nextInt(6) == 0 && (low < 1000 || slip(3)) ? "0" : "") + low);
                word("" + (slip(15) ? low - 1 : Math.min(9999, low + random.nextInt(12))));
                break;
            case 1:
                word("choice");
                word("" + (2 + random.nextInt(slip(10) ? 9 : 8)));
                break;
            default:
                word("yesno");
        }
        String name = newName();
        word(name);
        word("width");
        word("" + (1 + random.nextInt(slip(20) ? 11 : 10)));
        ifPart();
        fields.add(name);
        sign(";");
    }

    /** Whether to slip, once in so many times; a clean text has no slips. */
    private boolean slip(int times) {
        return !clean && random.nextInt(times) == 0;
    }

    private String newName() {
        if (slip(40)) {
            return new String[] {"or", "group", "abcdefghi", "a"}[random.nextInt(4)];
        }
        for (int i = 0; i < POOL.length; i++) {
            fresh++;
            if (!used.contains(POOL[fresh % POOL.length])) {
                break;
            }
        }
        used.add(POOL[fresh % POOL.length]);
        return POOL[fresh % POOL.length];
    }

    private void ifPart() {
        if (random.nextInt(3) == 0 && !(clean && fields.isEmpty())) {
            word("if");
            condition(3);
        }
    }

    private void condition(int size) {
        disjunction(random.nextInt(size) + 1, 0);
    }

    private void disjunction(int size, int nesting) {
        int left = size;
        do {
            int part = 1 + random.nextInt(left);
            conjunction(part, nesting);
            left -= part;
            if (left > 0) {
                word("or");
            }
        } while (left > 0);
    }

    private void conjunction(int size, int nesting) {
        int left = size;
        do {
            int part = 1 + random.nextInt(left);
            test(part, nesting);
            left -= part;
            if (left > 0) {
                word("and");
            }
        } while (left > 0);
    }

    private void test(int size, int nesting) {
        boolean deep = nesting >= 6 && !slip(20);
        if (!deep && random.nextInt(size > 1 ? 2 : 6) == 0) {
            sign("(");
            disjunction(size, nesting + 1);
            sign(")");
        } else if (!deep && random.nextInt(4) == 0) {
            word("not");
            test(size, nesting + 1);
        } else {
            word(reference());
            if (random.nextInt(3) == 0) {
                sign("" + "=<>".charAt(random.nextInt(3)));
                word("" + (random.nextInt(5) == 0 ? random.nextInt(10000) : random.nextInt(6)));
            }
        }
    }

    private String reference() {
        if (fields.isEmpty() || slip(60)) {
            return POOL[random.nextInt(POOL.length)];
        }
        if (random.nextInt(12) == 0) {
            return POOL[(fresh + 1 + random.nextInt(3)) % POOL.length];
        }
        // The fields that stand early are asked for most, so that few conditions are circular.
        int bound = 1 + random.nextInt(fields.size());
        return fields.get(random.nextInt(bound));
    }

    private void word(String word) {
        int length = out.length();
        char before = length == 0 ? ';' : out.charAt(length - 1);
        boolean apart = Character.isLetter(before) ? Character.isLetter(word.charAt(0))
                : Character.isDigit(before) && Character.isDigit(word.charAt(0));
        if (apart || !calm && random.nextInt(3) == 0) {
            white();
        }
        out.append(word);
    }

    private void sign(String sign) {
        if (!calm && random.nextInt(3) == 0) {
            white();
        }
        out.append(sign);
    }

    private void white() {
        do {
            out.append(random.nextInt(5) == 0 ? '\n' : ' ');
        } while (!calm && random.nextInt(6) == 0);
    }
}
