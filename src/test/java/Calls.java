/** What the tests of single answers share: calls with texts for words, and the count of the answers. */
class Calls {
    static final int MAX = Integer.MAX_VALUE;
    static final int MIN = Integer.MIN_VALUE;
    static final String SAMPLE = "form 40 30 5;yesno pet width 6;"
            + "group animal if pet{choice 3 kind width 8;number 0 40 age width 4 if kind = 1 or kind = 2;}"
            + "number 5 9 rest width 4;yesno last width 10 if not pet;";
    private static String about = "";
    private static int row;
    private static int rights;
    private static int wrongs;

    /** Names what the next answers are about. */
    static void about(String text) {
        if (!about.equals(text)) {
            row = 0;
        }
        about = text;
    }

    static void due(Object want, Object got) {
        row++;
        if (want.equals(got)) {
            rights++;
        } else {
            StackTraceElement[] trace = new Throwable().getStackTrace();
            wrong("row " + row + " (" + trace[1] + "): answered " + got + ", due is " + want);
        }
    }

    static void wrong(String text) {
        wrongs++;
        System.out.println(about + ", " + text);
    }

    static int asked() {
        return rights + wrongs;
    }

    static void end(String name) {
        System.out.println(name + ": " + rights + " answers as due, " + wrongs + " not");
        System.exit(wrongs == 0 ? 0 : 1);
    }

    /** Puts a text on the tape behind what is there, in words of twenty bytes. */
    static void put(FormDesigner x, String text) {
        int spare = Math.floorMod(-text.length(), 20);
        String full = text + " ".repeat(spare);
        for (int i = 0; i < full.length(); i += 20) {
            x.append(word(full, i), word(full, i + 4), word(full, i + 8), word(full, i + 12), word(full, i + 16));
        }
        x.truncate(spare);
    }

    private static int word(String text, int at) {
        return text.charAt(at) << 24 | text.charAt(at + 1) << 16 | text.charAt(at + 2) << 8 | text.charAt(at + 3);
    }

    static FormDesigner form(String text) {
        FormDesigner x = new FormDesigner();
        put(x, text);
        if (x.load() < 0) {
            throw new IllegalStateException("a test's form is wrong at " + x.errorPosition() + ": " + text);
        }
        return x;
    }

    /** A form with one revision and one sheet. */
    static FormDesigner sheet(String text) {
        FormDesigner x = form(text);
        x.publish();
        x.begin();
        return x;
    }

    static int load(FormDesigner x, String text) {
        put(x, text);
        return x.load();
    }

    static int insert(FormDesigner x, int group, String text) {
        put(x, text);
        return x.insert(group);
    }

    static int condition(FormDesigner x, int node, String text) {
        put(x, text);
        return x.setCondition(node);
    }

    static String setup(FormDesigner x) {
        StringBuilder text = new StringBuilder();
        int length = x.setupLength();
        for (int i = 0; i < length; i++) {
            text.append((char) x.setupByte(i));
        }
        return text.toString();
    }

    static String text(FormDesigner x, boolean print, int of) {
        StringBuilder text = new StringBuilder();
        int length = x.textLength(print, of);
        for (int i = 0; i < length; i++) {
            text.append((char) x.textByte(print, of, i));
        }
        return text.toString();
    }

    static String name(FormDesigner x, int node) {
        StringBuilder name = new StringBuilder();
        for (int i = 0; x.letter(node, i) >= 0; i++) {
            name.append((char) x.letter(node, i));
        }
        return name.toString();
    }

    static int letters(String name) {
        int letters = 0;
        for (int i = 0; i < 6; i++) {
            letters = letters << 5 | (i < name.length() ? name.charAt(i) - 'a' + 1 : 0);
        }
        return letters;
    }

    /** Loads a text that is wrong and gives the error position; 1000 and the answer if it is right. */
    static int wrongAt(String text) {
        FormDesigner x = new FormDesigner();
        int result = load(x, text);
        return result == -1 ? x.errorPosition() : 1000 + result;
    }

    static String fields(int from, int to) {
        StringBuilder text = new StringBuilder();
        for (int i = from; i < to; i++) {
            text.append("yesno ").append((char) ('a' + i)).append(" width 1;");
        }
        return text.toString();
    }

    static String groups(int from, int to) {
        StringBuilder text = new StringBuilder();
        for (int i = from; i < to; i++) {
            text.append("group g").append((char) ('a' + i)).append("{}");
        }
        return text.toString();
    }

    /** Where a node stands: row and column. */
    static String at(FormDesigner x, boolean print, int of, int node) {
        return x.place(print, of, node, false) + "," + x.place(print, of, node, true);
    }

    /** All that can be asked but the tape, the error position and what can be undone. */
    static String picture(FormDesigner x) {
        StringBuilder all = new StringBuilder(setup(x)).append('\n');
        for (int what = 0; what < 10; what++) {
            all.append(x.value(what)).append(' ');
        }
        for (int node = 0; node < 32; node++) {
            all.append(x.node(node, 0)).append(name(x, node)).append(' ');
        }
        for (int revision = 0; revision < x.value(5); revision++) {
            all.append('\n').append(text(x, true, revision)).append(x.pages(revision));
            for (int node = 0; node < 32; node++) {
                all.append(x.exists(revision, node) ? '+' : '-');
            }
        }
        for (int sheet = 0; sheet < x.value(6); sheet++) {
            pictureOfSheet(x, sheet, all);
        }
        return all.toString();
    }

    private static void pictureOfSheet(FormDesigner x, int sheet, StringBuilder all) {
        all.append('\n').append(x.revisionOf(sheet)).append(' ').append(x.answers(sheet)).append(' ');
        all.append(x.open(sheet)).append('\n').append(text(x, false, sheet));
        for (int revision = 0; revision < x.value(5); revision++) {
            for (int node = 0; node < 32; node++) {
                all.append(x.isShown(sheet, revision, node) ? 's' : '.').append(x.inForce(sheet, revision, node));
            }
        }
    }
}
