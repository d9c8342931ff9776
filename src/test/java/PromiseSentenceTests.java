import java.io.IOException;

/** Each sentence of the promises 1 to 42, quoted, with the cases that it names. */
public final class PromiseSentenceTests extends Sentences {
    private static final int[] FAR = {-1, -2, -3, 23, 31, 32, 33, 100, MAX, MIN};

    public static void main(String[] args) throws IOException {
        read(args[0]);
        newObject();
        append();
        truncate();
        load();
        insert();
        setCondition();
        errorPosition();
        rename();
        remove();
        move();
        moveRefused();
        setKind();
        publish();
        begin();
        answer();
        advance();
        undo();
        value();
        node();
        letter();
        named();
        nodeAt();
        dependsOn();
        dependents();
        inOrder();
        wouldRefuse();
        exists();
        revisionOf();
        answers();
        isShown();
        inForce();
        open();
        completeness();
        average();
        tally();
        rows();
        place();
        pages();
        textLength();
        textByte();
        setupLength();
        setupParentheses();
        setupByte();
        tapeLength();
        for (int promise = 1; promise <= 42; promise++) {
            endOf("Promise " + promise);
        }
        end("PromiseSentenceTests");
    }

    // ---- texts

    private static void newObject() {
        section("Promise 1");
        says("Creates a form without nodes, with SCREEN and PRINT 40 and PAGE 20, without revisions and sheets, and with an empty tape.");
        FormDesigner x = new FormDesigner();
        int[] values = {40, 40, 20, 0, 0, 0, 0, 0, 0, 0};
        for (int what = 0; what < 10; what++) {
            due(values[what], x.value(what));
        }
        due("form 40 40 20;", setup(x));
        due(0, x.tapeLength());
        due(-1, x.truncate(1));
        due(-1, x.undo());
        due(-2, x.errorPosition());
        // Its layouts have those columns and pages.
        insert(x, -2, fields(0, 21) + groups(0, 1));
        x.publish();
        x.begin();
        due("0,38", at(x, false, 0, 19));
        due("1,0", at(x, false, 0, 20));
        due("1,0", at(x, true, 0, 20));
        due("2,0", at(x, true, 0, 24));
        due(1, x.pages(0));
        // Two objects have nothing in common.
        due(0, new FormDesigner().value(5));
    }

    private static void append() {
        section("Promise 2");
        says("Appends twenty bytes to the tape: the four bytes of a, most significant byte first, then those of b, c, d and e.");
        FormDesigner x = new FormDesigner();
        due(20, x.append(0x666F726D, 0x31342031, 0x3520373B, 0x79657320, 0x2020200A));
        due(-1, x.load());
        due(12, x.errorPosition());
        due(20, x.append(0x666F726D, 0x31342031, 0x3520373B, 0x20202020, 0x2020200A));
        due(0, x.load());
        due("form 14 15 7;", setup(x));
        String[] words = {"- `a`: bytes 0 to 3", "- `b`: bytes 4 to 7", "- `c`: bytes 8 to 11", "- `d`: bytes 12 to 15", "- `e`: bytes 16 to 19"};
        for (int word = 0; word < 5; word++) {
            says(words[word]);
            for (int i = 0; i < 4; i++) {
                // A byte that is no token, once with its highest bit set.
                due(4 * word + i, spoilt(word, 0x20202020 & ~(255 << 24 - 8 * i) | '!' << 24 - 8 * i));
                due(4 * word + i, spoilt(word, 0x20202020 | 0xFF << 24 - 8 * i));
            }
        }
        says("Returns the new length of the tape;");
        for (int i = 1; i <= 60; i++) {
            due(20 * i, x.append(0, MAX, MIN, -1, 1));
        }
        says("INVALID if it would exceed 1200 bytes (nothing is appended).");
        due(-1, x.append(0, 0, 0, 0, 0));
        due(1200, x.tapeLength());
        due(1199, x.truncate(1));
        due(-1, x.append(0, 0, 0, 0, 0));
        due(1199, x.tapeLength());
        due(1181, x.truncate(18));
        due(-1, x.append(0, 0, 0, 0, 0));
        due(1180, x.truncate(1));
        due(1200, x.append(0, 0, 0, 0, 0));
        due(0, x.truncate(1200));
        put(x, "form 14 14 1;" + " ".repeat(1168));
        due(1181, x.tapeLength());
        due(-1, x.append(-1, -1, -1, -1, -1));
        due(0, x.load());
    }

    /** The error position of blank nodes in which one word is another. */
    private static int spoilt(int word, int other) {
        int[] w = new int[5];
        for (int i = 0; i < 5; i++) {
            w[i] = i == word ? other : 0x20202020;
        }
        FormDesigner x = new FormDesigner();
        x.append(w[0], w[1], w[2], w[3], w[4]);
        due(-1, x.insert(-2));
        return x.errorPosition();
    }

    private static void truncate() {
        section("Promise 3");
        says("Removes the last bytes of the tape.");
        FormDesigner x = new FormDesigner();
        put(x, "form 14 14 1;#abc");
        due(13, x.truncate(4));
        due(0, x.load());
        put(x, "form 14 14 1;");
        put(x, "group g{}");
        due(13, x.truncate(9));
        put(x, "group h{}");
        due(0, x.load());
        due("h", name(x, 24));
        says("- `n`: number of bytes, 0 to the length of the tape");
        due(0, x.truncate(0));
        due(-1, x.truncate(1));
        x.append(0, 0, 0, 0, 0);
        due(20, x.truncate(0));
        due(-1, x.truncate(21));
        due(0, x.truncate(20));
        says("Returns the new length of the tape; INVALID if n is out of range.");
        x.append(0, 0, 0, 0, 0);
        x.append(0, 0, 0, 0, 0);
        due(33, x.truncate(7));
        for (int wrong : new int[] {34, -1, -2, 1200, 1201, MAX, MIN}) {
            due(-1, x.truncate(wrong));
        }
        due(33, x.tapeLength());
        due(0, x.truncate(33));
    }

    private static void load() {
        section("Promise 4");
        says("Parses the tape as a setup text.");
        FormDesigner x = new FormDesigner();
        due(5, load(x, SAMPLE));
        due(SAMPLE, setup(x));
        due(-1, load(x, "yesno a width 1;"));
        due(-1, load(x, "pet"));
        due(-1, load(x, ""));
        says("The tape is empty afterwards.");
        due(0, x.tapeLength());
        put(x, "form 14 14 1;#");
        due(-1, x.load());
        due(0, x.tapeLength());
        put(x, "form 14 14 1;");
        due(0, x.load());
        due(0, x.tapeLength());
        due(-1, x.load());
        due(0, x.errorPosition());
        says("On success the form is replaced;");
        load(x, SAMPLE);
        due(2, load(x, "form 14 15 16;number 2 3 a width 4;yesno b width 5;"));
        due("form 14 15 16;number 2 3 a width 4;yesno b width 5;", setup(x));
        // Nothing of the node that had the number before is left.
        due(3, load(x, "form 14 14 1;yesno a width 1 if c;group g if c{number 2 3 b width 1 if c and c;}yesno c width 1;"));
        due(3, load(x, "form 14 14 1;choice 3 c width 2;yesno b width 1;group g{}yesno a width 1;"));
        due("form 14 14 1;choice 3 c width 2;yesno b width 1;group g{}yesno a width 1;", setup(x));
        for (int node : new int[] {0, 1, 2, 24}) {
            due(0, x.node(node, 7));
            due(-2, x.node(node, 4));
            due(0, x.node(node, 1));
        }
        due(0, x.value(9));
        due(0, x.dependsOn(0) | x.dependsOn(1));
        due(1, x.remove(2));
        due(0, load(x, "form 14 14 1;"));
        due(-2, x.nodeAt(0));
        due(-1, x.node(0, 0));
        due(0, x.value(7));
        due(0, x.value(8));
        says("there are no revisions and sheets, and nothing can be undone.");
        x = sheet(SAMPLE);
        x.answer(0, 0, 1);
        due(0, load(x, "form 14 14 1;"));
        due(0, x.value(5));
        due(0, x.value(6));
        due(-1, x.undo());
        due(-2, x.begin());
        due(-1, x.revisionOf(0));
        due(false, x.exists(0, 0));
        due(0, x.publish());
        due(0, x.begin());
        due(0, x.answers(0));
        due(1, x.undo());
        says("On an error everything but the tape and the error position stays.");
        x = sheet(SAMPLE);
        x.answer(0, 0, 1);
        String before = picture(x);
        for (String wrong : new String[] {"", "form 60 60 60", "form 60 60 60;yesno a width 1", "form 60 60 60;group g{}yesno a width 1 if g;",
            "form 60 60 60;yesno a width 1 if a;", "form 60 60 99;", "#"}) {
            due(-1, load(x, wrong));
            due(before, picture(x));
        }
        due(2, x.undo());
        says("Returns the number of fields; INVALID on an error.");
        due(0, load(x, "form 14 14 1;group g{}"));
        due(1, load(x, "form 14 14 1;group g{yesno a width 1;}"));
        due(24, load(x, "form 14 14 1;" + groups(0, 8) + fields(0, 24)));
        due(-1, load(x, "form 14 14 1;" + fields(0, 24) + "yesno z width 1;"));
    }

    private static void insert() {
        section("Promise 5");
        says("Parses the tape as nodes (section 5), which are added at the end of a group of the draft.");
        FormDesigner x = form(SAMPLE);
        due(1, insert(x, 0, "yesno n width 3;group g{}"));
        due("form 40 30 5;yesno pet width 6;group animal if pet{choice 3 kind width 8;"
                + "number 0 40 age width 4 if kind = 1 or kind = 2;yesno n width 3;group g{}}number 5 9 rest width 4;"
                + "yesno last width 10 if not pet;", setup(x));
        due(-1, insert(x, 0, "form 14 14 1;"));
        says("The tape is empty afterwards (but not if the argument is invalid).");
        due(0, x.tapeLength());
        put(x, "yesno o width 1;");
        due(-1, x.insert(2));
        due(16, x.tapeLength());
        due(1, x.insert(1));
        due(0, x.tapeLength());
        due(-2, insert(x, 0, "   "));
        due(0, x.tapeLength());
        says("On an error everything but the tape and the error position stays.");
        String before = picture(x);
        int left = 2;
        for (String wrong : new String[] {"#", "yesno p width 1", "group p{", "yesno p width 1 if q;", "yesno p width 1 if p;", "}",
            "yesno p width 1;}", "yesno p width 1;group pet{}", "group p{}yesno q width 11;"}) {
            due(-1, insert(x, 0, wrong));
            due(before, picture(x));
            due(0, x.tapeLength());
        }
        due(left - 1, x.undo());
        says("- `group`: a group");
        due(1, insert(x, -2, "yesno z width 1;"));
        due(-2, x.node(6, 4));
        due(0, insert(x, 1, "group h{}"));
        due(1, x.node(26, 4));
        says("Returns the number of fields that have been added;");
        due(0, insert(x, 0, "group i{group j{}}"));
        due(3, insert(x, 0, "yesno a width 1;group k{yesno b width 1;group l{yesno c width 1;}}"));
        says("INVALID for an invalid argument or on an error;");
        for (int wrong : new int[] {7, 8, 24, -1, -3, MAX, MIN}) {
            due(-1, x.insert(wrong));
        }
        due(-1, insert(x, 0, "0"));
        says("NOT_FOUND if the text contains no node.");
        due(-2, x.insert(0));
        due(-2, x.insert(-2));
        due(-2, insert(x, 0, " \n \n"));
        due(-2, x.errorPosition());
        due(4, x.undo());
    }

    private static void setCondition() {
        section("Promise 6");
        says("Parses the tape as a condition (section 5), which becomes the condition of a node of the draft;");
        FormDesigner x = form(SAMPLE);
        due(2, condition(x, 3, "pet or last = 1"));
        due(17, x.dependsOn(3));
        due(1, condition(x, 24, "rest"));
        due(8, x.dependsOn(1));
        due(-1, condition(x, 3, "yesno a width 1;"));
        due(-1, condition(x, 3, "pet pet"));
        due(4, x.errorPosition());
        says("without any token, the node has no condition afterwards.");
        due(0, condition(x, 3, ""));
        due(0, x.dependsOn(3));
        due(0, condition(x, 24, " \n "));
        due(0, x.dependsOn(1));
        due(2, x.value(9));
        due(0, condition(x, 24, ""));
        says("The tape is empty afterwards (but not if the argument is invalid).");
        put(x, "pet");
        for (int wrong : new int[] {5, 23, 25, 31, 32, -1, -2, MAX, MIN}) {
            due(-1, x.setCondition(wrong));
        }
        due(3, x.tapeLength());
        due(1, x.setCondition(24));
        due(0, x.tapeLength());
        due(-1, condition(x, 24, "pet#"));
        due(0, x.tapeLength());
        says("On an error everything but the tape and the error position stays.");
        String before = picture(x);
        for (String wrong : new String[] {"#", "pet or", "age", "kind", "animal", "pet or nobody", ")", "pet = 10000"}) {
            due(-1, condition(x, 24, wrong));
            due(before, picture(x));
        }
        due(5, x.undo());
        says("- `node`: a node");
        x = form(SAMPLE);
        due(1, condition(x, 0, "rest"));
        due(1, condition(x, 24, "rest"));
        due(-1, condition(x, 5, "rest"));
        says("Returns the number of tests of the condition, also if the node had the same one (this is an operation, too);");
        x = form("form 14 14 1;yesno a width 1;group g{}");
        due(1, condition(x, 24, "not not a"));
        due(1, condition(x, 24, "not not a"));
        due(4, condition(x, 24, "a and (a or not a) and a > 1"));
        due(0, condition(x, 24, ""));
        due(0, condition(x, 24, ""));
        StringBuilder many = new StringBuilder("a");
        for (int i = 0; i < 239; i++) {
            many.append(" or a");
        }
        due(1196, many.length());
        due(240, condition(x, 24, many.toString()));
        due(240, x.node(24, 7));
        due(240, condition(x, 24, many.toString()));
        for (int left = 6; left >= 0; left--) {
            due(left, x.undo());
        }
        due(0, x.value(9));
        says("INVALID for an invalid argument or on an error.");
        due(-1, condition(x, 0, "a"));
        due(-1, condition(x, 1, "a"));
        due(-1, x.undo());
    }

    private static void errorPosition() {
        section("Promise 7");
        says("Returns the error position of the latest text that was parsed.");
        FormDesigner x = form(SAMPLE);
        due(-1, insert(x, -2, "yesno #"));
        due(6, x.errorPosition());
        due(-1, condition(x, 0, "pet"));
        due(0, x.errorPosition());
        due(-1, load(x, "form 13"));
        due(5, x.errorPosition());
        // A text that is not parsed, and all other calls, leave it.
        put(x, "#");
        due(-1, x.insert(7));
        due(-1, x.setCondition(7));
        x.publish();
        x.undo();
        x.truncate(1);
        due(5, x.errorPosition());
        says("Returns the position; NOT_FOUND if it was right or there was none.");
        due(-2, new FormDesigner().errorPosition());
        due(0, condition(x, 0, ""));
        due(-2, x.errorPosition());
        due(-1, x.load());
        due(0, x.errorPosition());
        due(-2, x.insert(0));
        due(-2, x.errorPosition());
        due(-1, x.load());
        due(5, load(x, SAMPLE));
        due(-2, x.errorPosition());
    }

    // ---- the draft

    private static void rename() {
        section("Promise 8");
        says("Renames a node.");
        FormDesigner x = form(SAMPLE);
        due(true, x.rename(0, letters("dog")));
        due("dog", name(x, 0));
        due("form 40 30 5;yesno dog width 6;group animal if dog{choice 3 kind width 8;"
                + "number 0 40 age width 4 if kind = 1 or kind = 2;}number 5 9 rest width 4;yesno last width 10 if not dog;", setup(x));
        says("- `node`: a node");
        due(true, x.rename(24, letters("pet")));
        due(true, x.rename(4, letters("zzzzzz")));
        for (int wrong : FAR) {
            due(false, x.rename(wrong, letters("q")));
        }
        says("- `letters`: the new name of 1 to 6 letters: six groups of 5 bits, the first letter in bits 25 to 29; a is 1, z is 26; unused groups at the end are 0;");
        due(true, x.rename(1, 1 << 25));
        due("a", name(x, 1));
        due(true, x.rename(1, 26 << 25));
        due("z", name(x, 1));
        due(true, x.rename(1, 1 << 25 | 2 << 20 | 3 << 15 | 4 << 10 | 25 << 5 | 26));
        due("abcdyz", name(x, 1));
        due(true, x.rename(1, 26 << 25 | 26 << 20));
        due("zz", name(x, 1));
        says("any other int is an invalid argument");
        int[] wrongs = {0, 1, 31, 32, 1 << 20, 27 << 25, 31 << 25, 1 << 25 | 27 << 20, 1 << 25 | 1 << 15, 1 << 25 | 1, 1 << 25 | 2 << 20 | 27,
            1 << 30, 1 << 30 | 1 << 25, MIN | 1 << 25, MIN, MAX, -1, -2, 3 << 30 | 1 << 25, 1 << 25 | 2 << 20 | 3 << 15 | 4 << 10 | 27 << 5 | 1};
        for (int wrong : wrongs) {
            due(false, x.rename(1, wrong));
            due(-1, x.named(wrong));
        }
        due("zz", name(x, 1));
        says("Returns true; false for an invalid argument, for a keyword, or if a node has this name.");
        for (String keyword : "form group if width number choice yesno or and not".split(" ")) {
            due(false, x.rename(1, letters(keyword)));
            due(false, x.rename(24, letters(keyword)));
        }
        due(false, x.rename(1, letters("zz")));
        due(false, x.rename(1, letters("dog")));
        due(false, x.rename(1, letters("pet")));
        due(false, x.rename(24, letters("dog")));
        due(false, x.rename(24, letters("pet")));
        due(true, x.rename(1, letters("animal")));
        // A name of seven or eight letters is another one than its first six.
        x = form("form 14 14 1;yesno abcdefgh width 1;yesno abcdefg width 1;");
        due(true, x.rename(0, letters("abcdef")));
        due(false, x.rename(1, letters("abcdef")));
        due(0, x.undo());
    }

    private static void remove() {
        section("Promise 9");
        says("Removes a node, a group with all that is in it.");
        FormDesigner x = form("form 14 14 1;yesno a width 1;group g if a{group h{yesno b width 1;}yesno c width 1 if b;group i if c{}}yesno d width 1;");
        due(1, x.remove(3));
        due(2, x.remove(24));
        due("form 14 14 1;yesno a width 1;", setup(x));
        for (int node : new int[] {1, 2, 3, 24, 25, 26}) {
            due(-1, x.remove(node));
        }
        due(-2, x.nodeAt(1));
        due(1, x.undo());
        due(0, x.undo());
        due("form 14 14 1;yesno a width 1;group g if a{group h{yesno b width 1;}yesno c width 1 if b;group i if c{}}yesno d width 1;", setup(x));
        says("- `node`: a node");
        for (int wrong : FAR) {
            due(-1, x.remove(wrong));
        }
        says("Returns the number of fields that have been removed;");
        due(0, x.remove(26));
        due(1, x.remove(2));
        due(1, x.remove(25));
        due(0, x.remove(24));
        due(1, x.remove(0));
        due(1, x.remove(3));
        due(24, load(x, "form 14 14 1;group ga{group gb{" + fields(0, 24) + "}}"));
        due(24, x.remove(24));
        due(-2, x.nodeAt(0));
        says("INVALID for an invalid argument;");
        due(-1, x.remove(24));
        due(-1, x.remove(0));
        says("NOT_FOUND if a condition of a node that would be left refers to one of them.");
        x = form("form 14 14 1;group g if d{group h{yesno a width 1;}yesno b width 1 if a;}group i if b{}yesno c width 1 if b or a;yesno d width 1;");
        String before = picture(x);
        due(-2, x.remove(0));
        due(-2, x.remove(25));
        due(-2, x.remove(24));
        due(-2, x.remove(1));
        due(-2, x.remove(3));
        due(-2, form("form 14 14 1;yesno a width 1 if b;yesno b width 1;").remove(1));
        due(before, picture(x));
        due(-1, x.undo());
        due(0, x.remove(26));
        due(-2, x.remove(24));
        due(1, x.remove(2));
        due(-2, x.remove(25));
        due(2, x.remove(24));
        due(1, x.remove(3));
    }

    private static void move() {
        section("Promise 10");
        says("Moves a node to another place: it is taken out, and then becomes the node with an index in the list of a group.");
        FormDesigner x = form("form 14 14 1;yesno a width 1;yesno b width 1;yesno c width 1;group g{yesno d width 1;group h{yesno e width 1;}}");
        due(true, x.move(0, -2, 1));
        due("b a c g d h e", order(x));
        due(true, x.move(0, -2, 3));
        due("b c g d h e a", order(x));
        due(true, x.move(24, -2, 0));
        due("g d h e b c a", order(x));
        due(true, x.move(25, -2, 2));
        due("g d b h e c a", order(x));
        due(true, x.move(2, 1, 0));
        due("g d b h c e a", order(x));
        due(true, x.move(24, 1, 1));
        due("b h c g d e a", order(x));
        due(1, x.node(24, 4));
        due(1, x.node(24, 5));
        due(1, x.node(24, 6));
        says("- `node`: a node");
        for (int wrong : FAR) {
            due(false, x.move(wrong, -2, 0));
        }
        says("- `group`: a group");
        due(true, x.move(0, 0, 1));
        for (int wrong : new int[] {2, 7, 8, 24, 25, -1, -3, MAX, MIN}) {
            due(false, x.move(0, wrong, 0));
        }
        says("- `index`: its index there, 0 to the number of nodes in the list after it has been taken out");
        x = form("form 14 14 1;yesno a width 1;yesno b width 1;group g{yesno c width 1;}group h{}");
        for (int wrong : new int[] {4, 5, -1, -2, MAX, MIN}) {
            due(false, x.move(0, -2, wrong));
        }
        due(true, x.move(0, -2, 3));
        due(false, x.move(0, 0, 2));
        due(false, x.move(0, 1, 1));
        due(true, x.move(0, 1, 0));
        due(false, x.move(1, -2, 3));
        due(true, x.move(1, -2, 2));
        due(true, x.move(0, 0, 1));
        due("g c a h b", order(x));
    }

    private static String order(FormDesigner x) {
        StringBuilder order = new StringBuilder();
        for (int i = 0; x.nodeAt(i) >= 0; i++) {
            order.append(i == 0 ? "" : " ").append(name(x, x.nodeAt(i)));
        }
        return order.toString();
    }

    private static void moveRefused() {
        says("Returns true; false for an invalid argument, if the group is the node itself or lies in it,");
        FormDesigner x = form("form 14 14 1;group a{group b{group c{}}}group d{}");
        String before = picture(x);
        due(false, x.move(24, 0, 0));
        due(false, x.move(24, 1, 0));
        due(false, x.move(24, 2, 0));
        due(false, x.move(25, 2, 0));
        due(false, x.move(26, 2, 0));
        due(before, picture(x));
        says("if groups would lie too deep,");
        due(true, x.move(24, 3, 0));
        due(1, insert(x, 2, "yesno z width 1;"));
        due(true, x.move(24, -2, 0));
        due(true, x.move(27, 2, 0));
        due(true, x.move(27, -2, 0));
        due(0, insert(x, 3, "group e{}"));
        due(false, x.move(27, 2, 0));
        due(false, x.move(24, 4, 0));
        due(true, x.move(24, 3, 0));
        due(3, x.node(26, 6));
        x.undo();
        due(true, x.move(27, 1, 1));
        due(3, x.node(28, 6));
        says("if a field would depend on itself,");
        x = form("form 14 14 1;yesno a width 1;yesno b width 1 if a;group g if b{group h{}}group i if a{yesno c width 1;}");
        before = picture(x);
        due(false, x.move(0, 0, 1));
        due(false, x.move(0, 1, 0));
        due(false, x.move(1, 1, 0));
        due(false, x.move(0, 2, 0));
        due(before, picture(x));
        due(true, x.move(1, 2, 0));
        due(false, x.move(26, 1, 0));
        due(true, x.move(2, 1, 0));
        says("or if it is there already.");
        before = picture(x);
        due(false, x.move(0, -2, 0));
        due(false, x.move(2, 1, 0));
        due(false, x.move(25, 0, 0));
        due(false, x.move(26, -2, 2));
        due(before, picture(x));
        due(1, x.undo());
    }

    private static void setKind() {
        section("Promise 11");
        says("Changes the kind of a field.");
        FormDesigner x = form("form 14 14 1;number 3 7 a width 4 if b;yesno b width 1;");
        due(0, x.setKind(0, 1, 0, 3));
        due("form 14 14 1;choice 3 a width 4 if b;yesno b width 1;", setup(x));
        says("- `field`: a field");
        for (int wrong : new int[] {2, 23, 24, 25, 32, -1, -2, MAX, MIN}) {
            due(-1, x.setKind(wrong, 2, 0, 1));
        }
        says("- `kind`: 0 number, 1 choice, 2 yesno");
        due(1, x.setKind(0, 0, 0, 1));
        due(0, x.node(0, 0));
        due(0, x.setKind(0, 1, 0, 2));
        due(1, x.node(0, 0));
        due(1, x.setKind(0, 2, 0, 1));
        due(2, x.node(0, 0));
        for (int wrong : new int[] {3, 4, -1, -2, MAX, MIN}) {
            due(-1, x.setKind(0, wrong, 0, 1));
            due(-1, x.setKind(0, wrong, 0, 2));
            due(-1, x.setKind(0, wrong, 0, 0));
        }
        says("- `low`: the lowest value; 0 for the other kinds");
        due(2, x.setKind(0, 0, 9999, 9999));
        due(9999, x.node(0, 1));
        due(-1, x.setKind(0, 0, -1, 5));
        due(-1, x.setKind(0, 0, 6, 5));
        due(-1, x.setKind(0, 0, MIN, 5));
        due(-1, x.setKind(0, 0, 10000, 10000));
        due(-1, x.setKind(0, 1, 1, 5));
        due(-1, x.setKind(0, 1, -1, 5));
        due(-1, x.setKind(0, 2, 1, 1));
        due(-1, x.setKind(0, 2, -1, 1));
        says("- `high`: the highest value; the number of options for a choice; 1 for yesno");
        due(0, x.setKind(0, 0, 0, 0));
        due(0, x.setKind(0, 0, 0, 9999));
        due(-1, x.setKind(0, 0, 0, 10000));
        due(-1, x.setKind(0, 0, 0, MAX));
        due(-1, x.setKind(0, 0, 0, -1));
        due(0, x.setKind(0, 1, 0, 9));
        due(8, x.node(0, 2));
        due(1, x.setKind(0, 1, 0, 2));
        due(1, x.node(0, 2));
        for (int wrong : new int[] {0, 1, 10, 11, -1, MAX, MIN}) {
            due(-1, x.setKind(0, 1, 0, wrong));
        }
        due(1, x.setKind(0, 2, 0, 1));
        for (int wrong : new int[] {0, 2, -1, -2, MAX, MIN}) {
            due(-1, x.setKind(0, 2, 0, wrong));
        }
        says("Returns the previous kind; INVALID for an invalid argument; NOT_FOUND if it is so already.");
        due(-2, x.setKind(0, 2, 0, 1));
        due(2, x.setKind(0, 1, 0, 2));
        due(-2, x.setKind(0, 1, 0, 2));
        due(1, x.setKind(0, 0, 0, 1));
        due(-2, x.setKind(0, 0, 0, 1));
        due(0, x.setKind(0, 0, 1, 1));
        due(0, x.setKind(0, 0, 1, 2));
        due(0, x.setKind(0, 1, 0, 3));
        due(-2, x.setKind(0, 1, 0, 3));
        due(-1, x.setKind(0, 1, 0, 10));
    }

    private static void publish() {
        section("Promise 12");
        says("Publishes the draft.");
        FormDesigner x = new FormDesigner();
        due(0, x.publish());
        due(0, x.rows(true, 0));
        insert(x, -2, "yesno a width 1;");
        due(1, x.publish());
        due(1, x.rows(true, 1));
        due(0, x.rows(true, 0));
        says("Returns the number of the revision;");
        for (int i = 2; i < 8; i++) {
            due(i, x.publish());
        }
        says("NOT_FOUND if there are 8 revisions.");
        due(-2, x.publish());
        due(8, x.undo());
        due(7, x.value(5));
        // An undone revision gives its number back, and nothing of it is left.
        insert(x, -2, "yesno b width 1;");
        due(7, x.publish());
        due(true, x.exists(7, 1));
        due(false, x.exists(6, 1));
        due(-2, x.publish());
    }

    // ---- sheets

    private static void begin() {
        section("Promise 13");
        says("Begins a sheet that belongs to the latest revision.");
        FormDesigner x = sheet("form 14 14 1;yesno a width 1;");
        due(0, x.revisionOf(0));
        x.publish();
        due(0, x.revisionOf(0));
        due(1, x.begin());
        due(1, x.revisionOf(1));
        due(0, x.answers(1));
        says("Returns the number of the sheet;");
        for (int i = 2; i < 10; i++) {
            due(i, x.begin());
        }
        says("NOT_FOUND if there are no revisions or 10 sheets.");
        due(-2, x.begin());
        due(10, x.value(6));
        x.answer(9, 0, 1);
        x.undo();
        x.undo();
        due(9, x.begin());
        due(0, x.answers(9));
        due(-2, x.begin());
        due(-2, new FormDesigner().begin());
        due(-2, form(SAMPLE).begin());
        x = form(SAMPLE);
        x.publish();
        x.undo();
        due(-2, x.begin());
    }

    private static void answer() {
        section("Promise 14");
        says("Gives an answer, or deletes it.");
        FormDesigner x = sheet(SAMPLE);
        due(0, x.answer(0, 3, 5));
        due(5, x.inForce(0, 0, 3));
        due(0, x.answer(0, 3, 6));
        due(6, x.inForce(0, 0, 3));
        due(0, x.answer(0, 3, -2));
        due(-2, x.inForce(0, 0, 3));
        due(0, x.answers(0));
        says("- `sheet`: a sheet");
        for (int wrong : new int[] {1, 10, -1, -2, MAX, MIN}) {
            due(-1, x.answer(wrong, 3, 5));
        }
        says("- `field`: a field of its revision");
        x.remove(4);
        insert(x, -2, "yesno z width 1;");
        x.publish();
        for (int wrong : new int[] {5, 23, 24, 32, -1, -2, MAX, MIN}) {
            due(-1, x.answer(0, wrong, 0));
            due(-1, x.answer(0, wrong, -2));
        }
        due(0, x.answer(0, 4, 0));
        says("- `value`: a value of the kind that the field has in this revision; NOT_FOUND to delete the answer");
        x.setKind(3, 1, 0, 3);
        x.publish();
        for (int wrong : new int[] {4, 10, 0, -1, -3, MAX, MIN}) {
            due(-1, x.answer(0, 3, wrong));
        }
        due(0, x.answer(0, 3, 9));
        due(0, x.answer(0, 3, -2));
        says("Returns the number of nodes (fields and groups) of the revision that are shown then, but were not before, or the other way round;");
        x = sheet("form 14 14 1;number 0 9 n width 1;group a if n = 1{yesno p width 1;yesno q width 1;group b{}}group c if n = 2{yesno r width 1 if p;}yesno s width 1 if not n = 1;");
        due(0, x.answer(0, 0, 0));
        due(5, x.answer(0, 0, 1));
        due(0, x.answer(0, 1, 1));
        due(6, x.answer(0, 0, 2));
        due(1, x.answer(0, 0, -2));
        due(0, x.answer(0, 0, 3));
        // Eleven come or go at once, through others too.
        x = sheet("form 14 14 1;yesno a width 1;yesno b width 1 if a;yesno c width 1 if b;group g if c{yesno d width 1;}yesno e width 1 if not c;");
        due(1, x.answer(0, 0, 1));
        due(1, x.answer(0, 1, 1));
        due(3, x.answer(0, 2, 1));
        due(5, x.answer(0, 0, 0));
        due(5, x.answer(0, 0, 1));
        says("INVALID for an invalid argument;");
        due(-1, x.answer(0, 0, 2));
        due(-1, x.answer(1, 0, 0));
        due(-1, x.answer(0, 5, 0));
        says("NOT_FOUND if the field is not shown or the answer is so already.");
        due(-2, x.answer(0, 0, 1));
        due(5, x.answer(0, 0, -2));
        due(-2, x.answer(0, 0, -2));
        due(-2, x.answer(0, 1, 0));
        due(-2, x.answer(0, 1, 1));
        due(-2, x.answer(0, 1, -2));
        due(2, x.answers(0));
        due(-2, x.answer(0, 3, -2));
        due(0, x.answer(0, 4, 1));
        due(-2, x.answer(0, 4, 1));
    }

    private static void advance() {
        section("Promise 15");
        says("Moves a sheet to the latest revision.");
        FormDesigner x = sheet("form 14 14 1;yesno a width 1;yesno b width 1;yesno c width 1 if b;");
        x.publish();
        x.publish();
        due(0, x.advance(0));
        due(2, x.revisionOf(0));
        says("- `sheet`: a sheet");
        for (int wrong : new int[] {1, 9, 10, -1, -2, MAX, MIN}) {
            due(-1, x.advance(wrong));
        }
        says("Returns the number of answers that have been deleted;");
        x.answer(0, 0, 1);
        x.answer(0, 1, 1);
        x.answer(0, 2, 1);
        x.answer(0, 1, 0);
        x.remove(2);
        x.publish();
        due(1, x.advance(0));
        due(2, x.answers(0));
        x.remove(0);
        x.remove(1);
        x.publish();
        due(2, x.advance(0));
        due(0, x.answers(0));
        due(4, x.revisionOf(0));
        x.undo();
        due(2, x.answers(0));
        due(3, x.revisionOf(0));
        says("INVALID for an invalid argument; NOT_FOUND if it belongs to the latest revision.");
        due(2, x.advance(0));
        due(-2, x.advance(0));
        due(1, x.begin());
        due(-2, x.advance(1));
        due(-1, x.advance(2));
        x.publish();
        due(0, x.advance(1));
        due(0, x.advance(0));
        due(-2, x.advance(1));
    }

    private static void undo() {
        section("Promise 16");
        says("Undoes the latest operation (section 6) that has not been undone.");
        FormDesigner x = form("form 14 14 1;yesno a width 1;");
        x.rename(0, letters("b"));
        x.rename(0, letters("c"));
        due(1, x.undo());
        due("b", name(x, 0));
        x.rename(0, letters("d"));
        due(1, x.undo());
        due("b", name(x, 0));
        due(0, x.undo());
        due("a", name(x, 0));
        says("The tape and the error position stay as they are.");
        due(-1, insert(x, -2, "yesno"));
        x.publish();
        put(x, "yesno z width 1;");
        x.begin();
        due(1, x.undo());
        due(16, x.tapeLength());
        due(5, x.errorPosition());
        due(1, x.insert(-2));
        due(0, x.tapeLength());
        due(1, x.undo());
        due(0, x.tapeLength());
        due(-2, x.errorPosition());
        says("Returns the number of operations that can still be undone;");
        due(0, x.undo());
        for (int i = 1; i <= 12; i++) {
            x.rename(0, letters("x" + (char) ('a' + i)));
            due(Math.min(i, 10) - 1, x.undo());
            x.rename(0, letters("y" + (char) ('a' + i)));
        }
        says("INVALID if there is none.");
        for (int left = 9; left >= 0; left--) {
            due(left, x.undo());
        }
        due("yc", name(x, 0));
        due(-1, x.undo());
        due("yc", name(x, 0));
        due(-1, new FormDesigner().undo());
    }

    // ---- nodes

    private static void value() {
        section("Promise 17");
        says("Returns a value.");
        FormDesigner x = sheet(SAMPLE);
        due(40, x.value(0));
        says("- `what`: 0 SCREEN, 1 PRINT, 2 PAGE, 3 the number of fields of the draft, 4 the number of its groups, 5 the number of revisions, 6 the number of sheets, 7 how many numbers of fields have been given, 8 how many numbers of groups have been given, 9 the number of nodes of the draft that have a condition");
        x.publish();
        x.publish();
        x.begin();
        x.remove(4);
        insert(x, 0, "group p if rest{group q if kind{}}");
        x.remove(26);
        int[] values = {40, 30, 5, 4, 2, 3, 2, 5, 3, 3};
        for (int what = 0; what < 10; what++) {
            due(values[what], x.value(what));
        }
        condition(x, 0, "rest");
        due(4, x.value(9));
        condition(x, 0, "");
        due(3, x.value(9));
        says("Returns that value; INVALID for any other what.");
        for (int wrong : new int[] {10, 11, -1, -2, MAX, MIN}) {
            due(-1, x.value(wrong));
        }
        due(24, load(x, "form 60 14 60;" + fields(0, 24) + groups(0, 8)));
        int[] most = {60, 14, 60, 24, 8, 0, 0, 24, 8, 0};
        for (int what = 0; what < 10; what++) {
            due(most[what], x.value(what));
        }
    }

    private static void node() {
        section("Promise 18");
        says("Returns a number of a node of the draft.");
        FormDesigner x = sheet("form 14 14 1;number 3 9999 a width 10;group g if a and a{choice 9 b width 2;group h{group i{}yesno c width 1 if not a;}}yesno d width 3;");
        x.setKind(3, 0, 4, 5);
        due(0, x.node(3, 0));
        says("- `node`: a node");
        for (int wrong : FAR) {
            for (int what = 0; what < 9; what++) {
                due(-1, x.node(wrong, what));
            }
        }
        x.undo();
        says("- `what`: 0 its kind (3 for a group), 1 the lowest value, 2 the highest one (of a choice the number of its options minus 1; 0 for a group), 3 its width (0 for a group), 4 the group in which it lies (NOT_FOUND if it lies in none), 5 its index in the list there, 6 how many groups lie around it, 7 the number of tests of its condition (0 without one), 8 the number of nodes directly in it (0 for a field)");
        int[] nodes = {0, 1, 2, 3, 24, 25, 26};
        int[][] values = {{0, 3, 9999, 10, -2, 0, 0, 0, 0}, {1, 0, 8, 2, 0, 0, 1, 0, 0}, {2, 0, 1, 1, 1, 1, 2, 1, 0}, {2, 0, 1, 3, -2, 2, 0, 0, 0},
            {3, 0, 0, 0, -2, 1, 0, 2, 2}, {3, 0, 0, 0, 0, 1, 1, 0, 2}, {3, 0, 0, 0, 1, 0, 2, 0, 0}};
        for (int i = 0; i < nodes.length; i++) {
            for (int what = 0; what < 9; what++) {
                due(values[i][what], x.node(nodes[i], what));
            }
        }
        says("Returns that number; INVALID for an invalid argument.");
        for (int wrong : new int[] {9, 10, -1, -2, MAX, MIN}) {
            due(-1, x.node(0, wrong));
            due(-1, x.node(24, wrong));
        }
    }

    private static void letter() {
        section("Promise 19");
        says("Returns a letter of the name of a node of the draft.");
        FormDesigner x = sheet("form 14 14 1;yesno azazazaz width 1;group b{}");
        x.rename(24, letters("cd"));
        due(97, x.letter(0, 0));
        due(122, x.letter(0, 7));
        due(99, x.letter(24, 0));
        due(100, x.letter(24, 1));
        says("- `node`: a node");
        for (int wrong : FAR) {
            due(-1, x.letter(wrong, 0));
        }
        due(-1, x.letter(1, 0));
        due(-1, x.letter(25, 0));
        says("- `i`: index of the letter, from 0");
        for (int i = 0; i < 8; i++) {
            due(i % 2 == 0 ? 97 : 122, x.letter(0, i));
        }
        says("Returns the letter's byte; INVALID for an invalid node or a negative i; NOT_FOUND if the name is not so long.");
        for (int i : new int[] {8, 9, 31, 32, MAX}) {
            due(-2, x.letter(0, i));
        }
        due(-2, x.letter(24, 2));
        due(-2, x.letter(24, 6));
        for (int i : new int[] {-1, -2, MIN}) {
            due(-1, x.letter(0, i));
        }
        due(-1, x.letter(25, 9));
        due(-1, x.letter(25, -1));
    }

    private static void named() {
        section("Promise 20");
        says("Returns a node of the draft by its name.");
        FormDesigner x = sheet("form 14 14 1;yesno a width 1;group b{yesno zzzzzz width 1;}yesno abcdefg width 1;yesno abcdefgh width 1;group c{}");
        due(0, x.named(letters("a")));
        due(24, x.named(letters("b")));
        due(1, x.named(letters("zzzzzz")));
        due(25, x.named(letters("c")));
        x.rename(0, letters("d"));
        due(0, x.named(letters("d")));
        due(-2, x.named(letters("a")));
        says("- `letters`: a name as for rename()");
        due(0, x.named(4 << 25));
        due(24, x.named(2 << 25));
        says("Returns the node; INVALID for an invalid argument; NOT_FOUND if no node has this name.");
        for (int wrong : new int[] {0, 1, 4, 4 << 20, 27 << 25, 4 << 25 | 1, 4 << 25 | 1 << 15, 1 << 30 | 4 << 25, MIN | 4 << 25, -1, -2, MAX, MIN}) {
            due(-1, x.named(wrong));
        }
        due(-2, x.named(letters("abcdef")));
        due(-2, x.named(letters("zzzzz")));
        due(-2, x.named(letters("if")));
        due(-2, new FormDesigner().named(letters("a")));
        x.remove(24);
        due(-2, x.named(letters("b")));
        due(-2, x.named(letters("zzzzzz")));
    }

    private static void nodeAt() {
        section("Promise 21");
        says("Returns a node of the draft by its place: the nodes in their order, each group ahead of what is in it.");
        FormDesigner x = sheet("form 14 14 1;group a{group b{yesno x width 1;}yesno y width 1;}group c{}yesno z width 1;");
        int[] order = {24, 25, 0, 1, 26, 2};
        for (int i = 0; i < 6; i++) {
            due(order[i], x.nodeAt(i));
        }
        x.move(2, -2, 0);
        due(2, x.nodeAt(0));
        due(26, x.nodeAt(5));
        says("- `i`: the place, from 0");
        x = form("form 14 14 1;" + groups(0, 8) + fields(0, 24));
        due(24, x.nodeAt(0));
        due(31, x.nodeAt(7));
        due(0, x.nodeAt(8));
        due(23, x.nodeAt(31));
        says("Returns the node; INVALID for a negative i; NOT_FOUND if there are not so many nodes.");
        for (int i : new int[] {32, 33, MAX}) {
            due(-2, x.nodeAt(i));
        }
        for (int i : new int[] {-1, -2, MIN}) {
            due(-1, x.nodeAt(i));
        }
        x.remove(23);
        due(-2, x.nodeAt(31));
        due(22, x.nodeAt(30));
        due(-2, new FormDesigner().nodeAt(0));
        due(-1, new FormDesigner().nodeAt(-1));
    }

    private static void dependsOn() {
        section("Promise 22");
        says("Returns the fields on which a field of the draft depends directly (section 2).");
        FormDesigner x = sheet("form 14 14 1;yesno a width 1;yesno b width 1 if a;group g if b{yesno c width 1;group h if d{yesno e width 1 if c = 3;}}yesno d width 1;");
        due(0, x.dependsOn(0));
        due(1, x.dependsOn(1));
        due(2, x.dependsOn(2));
        due(2 | 4 | 16, x.dependsOn(3));
        due(0, x.dependsOn(4));
        condition(x, 25, "");
        due(2 | 4, x.dependsOn(3));
        says("- `field`: a field");
        for (int wrong : new int[] {5, 23, 24, 25, 31, 32, -1, -2, MAX, MIN}) {
            due(-1, x.dependsOn(wrong));
        }
        says("Returns a bit mask of fields; INVALID for an invalid argument.");
        x = form("form 14 14 1;" + fields(0, 24));
        condition(x, 0, "x");
        due(1 << 23, x.dependsOn(0));
        condition(x, 0, "b or c or d or e or f or g or h or i or j or k or l or m or n or o or p or q or r or s or t or u or v or w or x");
        due(0xFFFFFE, x.dependsOn(0));
        due(-1, x.dependsOn(24));
    }

    private static void dependents() {
        section("Promise 23");
        says("Returns the fields of the draft that depend on a field, directly or through others.");
        FormDesigner x = sheet("form 14 14 1;yesno a width 1;yesno b width 1 if a;group g if b{yesno c width 1;group h{yesno e width 1;}}yesno d width 1 if c;yesno f width 1;");
        due(2 | 4 | 8 | 16, x.dependents(0));
        due(4 | 8 | 16, x.dependents(1));
        due(16, x.dependents(2));
        due(0, x.dependents(3));
        due(0, x.dependents(4));
        due(0, x.dependents(5));
        condition(x, 1, "");
        due(0, x.dependents(0));
        says("- `field`: a field");
        for (int wrong : new int[] {6, 23, 24, 25, 31, 32, -1, -2, MAX, MIN}) {
            due(-1, x.dependents(wrong));
        }
        says("Returns a bit mask of fields; INVALID for an invalid argument.");
        StringBuilder chain = new StringBuilder("form 14 14 1;");
        for (int i = 0; i < 23; i++) {
            chain.append("yesno ").append((char) ('a' + i)).append(" width 1 if ").append((char) ('b' + i)).append(';');
        }
        x = form(chain + "yesno x width 1;");
        due(0x7FFFFF, x.dependents(23));
        due(0, x.dependents(0));
        due(1, x.dependents(1));
        due(-1, x.dependents(24));
    }

    private static void inOrder() {
        section("Promise 24");
        says("Returns a field of the draft by the order in which conditions can be worked out: again and again, the field with the smallest number of those that depend only on fields that have come already.");
        FormDesigner x = sheet("form 14 14 1;yesno a width 1 if e;yesno b width 1;group g if b{yesno c width 1 if d;}yesno d width 1;yesno e width 1 if c;");
        int[] order = {1, 3, 2, 4, 0};
        for (int i = 0; i < 5; i++) {
            due(order[i], x.inOrder(i));
        }
        condition(x, 0, "");
        due(0, x.inOrder(0));
        due(4, x.inOrder(4));
        // The place in the tree does not count.
        x.move(0, -2, 3);
        due(0, x.inOrder(0));
        says("- `i`: the place, from 0");
        StringBuilder chain = new StringBuilder("form 14 14 1;");
        for (int i = 0; i < 23; i++) {
            chain.append("yesno ").append((char) ('a' + i)).append(" width 1 if ").append((char) ('b' + i)).append(';');
        }
        x = form(chain + "yesno x width 1;");
        for (int i = 0; i < 24; i++) {
            due(23 - i, x.inOrder(i));
        }
        says("Returns the field; INVALID for a negative i; NOT_FOUND if there are not so many fields.");
        for (int i : new int[] {24, 25, 32, MAX}) {
            due(-2, x.inOrder(i));
        }
        for (int i : new int[] {-1, -2, MIN}) {
            due(-1, x.inOrder(i));
        }
        x.remove(0);
        due(-2, x.inOrder(23));
        due(1, x.inOrder(22));
        x = form("form 14 14 1;" + groups(0, 8));
        due(-2, x.inOrder(0));
        due(-1, x.inOrder(-1));
    }

    private static void wouldRefuse() {
        section("Promise 25");
        says("Tells whether a test of a field in the condition of a node would be refused.");
        FormDesigner x = form("form 14 14 1;yesno a width 1;yesno b width 1 if a;group g if b{yesno c width 1;group h{}}yesno d width 1;");
        String[] names = {"a", "b", "c", "d"};
        for (int node : new int[] {0, 1, 2, 3, 24, 25}) {
            for (int field = 0; field < 4; field++) {
                boolean refused = condition(x, node, names[field]) == -1;
                if (!refused) {
                    x.undo();
                }
                due(refused, x.wouldRefuse(node, field));
            }
        }
        says("- `node`: a node of the draft");
        due(true, x.wouldRefuse(24, 2));
        due(false, x.wouldRefuse(24, 3));
        for (int wrong : FAR) {
            due(false, x.wouldRefuse(wrong, 0));
        }
        says("- `field`: a field of the draft");
        due(true, x.wouldRefuse(0, 2));
        for (int wrong : FAR) {
            due(false, x.wouldRefuse(0, wrong));
        }
        due(false, x.wouldRefuse(0, 24));
        due(false, x.wouldRefuse(24, 24));
        due(false, x.wouldRefuse(4, 4));
        says("Returns true if a field would depend on itself; false otherwise, also for an invalid argument.");
        due(true, x.wouldRefuse(0, 0));
        due(true, x.wouldRefuse(0, 1));
        due(false, x.wouldRefuse(1, 0));
        due(true, x.wouldRefuse(2, 2));
        due(false, x.wouldRefuse(25, 2));
        due(false, x.wouldRefuse(3, 2));
        due(0, condition(x, 24, ""));
        due(false, x.wouldRefuse(0, 2));
        x.move(2, 1, 0);
        due(true, x.wouldRefuse(25, 2));
        due(true, x.wouldRefuse(24, 2));
        due(false, x.wouldRefuse(0, 2));
    }

    // ---- revisions and sheets

    private static void exists() {
        section("Promise 26");
        says("Tells whether a node exists in a revision.");
        FormDesigner x = form(SAMPLE);
        x.publish();
        x.remove(24);
        x.publish();
        due(true, x.exists(0, 24));
        due(true, x.exists(0, 1));
        due(false, x.exists(1, 24));
        due(false, x.exists(1, 1));
        due(true, x.exists(1, 4));
        says("- `revision`: a revision");
        for (int wrong : new int[] {2, 7, 8, -1, -2, MAX, MIN}) {
            due(false, x.exists(wrong, 0));
        }
        says("- `node`: a node");
        for (int wrong : FAR) {
            due(false, x.exists(0, wrong));
        }
        says("Returns true if it does; false otherwise, also for an invalid argument.");
        due(false, x.exists(0, 5));
        due(false, x.exists(0, 25));
        insert(x, -2, "yesno z width 1;group h{}");
        due(false, x.exists(1, 5));
        x.publish();
        due(true, x.exists(2, 5));
        due(true, x.exists(2, 25));
        x.undo();
        due(false, x.exists(2, 0));
        due(false, form("form 14 14 1;yesno a width 1;").exists(0, 0));
        FormDesigner full = form("form 14 14 1;" + fields(0, 24) + groups(0, 8));
        full.publish();
        due(true, full.exists(0, 23));
        due(true, full.exists(0, 31));
        due(false, full.exists(0, 32));
    }

    private static void revisionOf() {
        section("Promise 27");
        says("Returns the revision to which a sheet belongs.");
        FormDesigner x = sheet(SAMPLE);
        for (int i = 1; i < 8; i++) {
            x.publish();
        }
        x.begin();
        due(0, x.revisionOf(0));
        due(7, x.revisionOf(1));
        x.advance(0);
        due(7, x.revisionOf(0));
        says("- `sheet`: a sheet");
        for (int i = 2; i < 10; i++) {
            due(-1, x.revisionOf(i));
            x.begin();
            due(7, x.revisionOf(i));
        }
        says("Returns the revision; INVALID for an invalid argument.");
        for (int wrong : new int[] {10, 11, -1, -2, MAX, MIN}) {
            due(-1, x.revisionOf(wrong));
        }
        x.undo();
        due(-1, x.revisionOf(9));
        due(-1, new FormDesigner().revisionOf(0));
    }

    private static void answers() {
        section("Promise 28");
        says("Returns the number of answers that a sheet keeps.");
        FormDesigner x = sheet(SAMPLE);
        due(0, x.answers(0));
        x.answer(0, 0, 1);
        x.answer(0, 1, 0);
        due(2, x.answers(0));
        x.answer(0, 0, 0);
        due(2, x.answers(0));
        x.answer(0, 0, -2);
        due(1, x.answers(0));
        x.remove(24);
        x.publish();
        due(1, x.answers(0));
        x.advance(0);
        due(0, x.answers(0));
        says("- `sheet`: a sheet");
        x.begin();
        x.answer(1, 3, 5);
        due(0, x.answers(0));
        due(1, x.answers(1));
        says("Returns the number; INVALID for an invalid argument.");
        for (int wrong : new int[] {2, 9, 10, -1, -2, MAX, MIN}) {
            due(-1, x.answers(wrong));
        }
        x = sheet("form 14 14 1;" + fields(0, 24));
        for (int field = 0; field < 24; field++) {
            x.answer(0, field, 0);
        }
        due(24, x.answers(0));
    }

    private static void isShown() {
        section("Promise 29");
        says("Tells whether a node is shown for the answers of a sheet.");
        FormDesigner x = sheet(SAMPLE);
        x.begin();
        x.answer(0, 0, 1);
        due(true, x.isShown(0, 0, 24));
        due(false, x.isShown(1, 0, 24));
        due(false, x.isShown(0, 0, 4));
        due(true, x.isShown(1, 0, 4));
        says("- `sheet`: a sheet");
        for (int wrong : new int[] {2, 9, 10, -1, -2, MAX, MIN}) {
            due(false, x.isShown(wrong, 0, 0));
        }
        says("- `revision`: a revision, which may be another one than that of the sheet");
        condition(x, 24, "rest > 7");
        x.publish();
        x.begin();
        due(false, x.isShown(0, 1, 24));
        x.answer(0, 3, 8);
        due(true, x.isShown(0, 1, 24));
        due(true, x.isShown(0, 1, 1));
        due(false, x.isShown(0, 1, 2));
        x.answer(2, 0, 1);
        due(true, x.isShown(2, 0, 24));
        due(false, x.isShown(2, 1, 24));
        for (int wrong : new int[] {2, 7, 8, -1, -2, MAX, MIN}) {
            due(false, x.isShown(0, wrong, 0));
        }
        says("- `node`: a node of that revision");
        insert(x, -2, "yesno z width 1;group h{}");
        x.publish();
        due(true, x.isShown(0, 2, 5));
        due(true, x.isShown(0, 2, 25));
        due(false, x.isShown(0, 1, 5));
        due(false, x.isShown(0, 0, 25));
        says("Returns true if it is shown; false otherwise, also for an invalid argument.");
        for (int wrong : FAR) {
            due(false, x.isShown(0, 0, wrong));
        }
        due(true, x.isShown(0, 0, 0));
        due(false, new FormDesigner().isShown(0, 0, 0));
    }

    private static void inForce() {
        section("Promise 30");
        says("Returns the answer that is in force.");
        FormDesigner x = sheet("form 14 14 1;number 0 9999 a width 1;yesno b width 1 if a;");
        x.begin();
        x.answer(0, 0, 9999);
        x.answer(0, 1, 0);
        due(9999, x.inForce(0, 0, 0));
        due(0, x.inForce(0, 0, 1));
        due(-2, x.inForce(1, 0, 0));
        says("- `sheet`: a sheet");
        for (int wrong : new int[] {2, 9, 10, -1, -2, MAX, MIN}) {
            due(-1, x.inForce(wrong, 0, 0));
        }
        says("- `revision`: a revision, which may be another one than that of the sheet");
        x.setKind(0, 0, 0, 9998);
        x.publish();
        due(-2, x.inForce(0, 1, 0));
        due(-2, x.inForce(0, 1, 1));
        due(9999, x.inForce(0, 0, 0));
        due(0, x.inForce(0, 0, 1));
        condition(x, 1, "");
        x.publish();
        due(0, x.inForce(0, 2, 1));
        for (int wrong : new int[] {3, 7, 8, -1, -2, MAX, MIN}) {
            due(-1, x.inForce(0, wrong, 0));
        }
        says("- `field`: a field of that revision");
        insert(x, -2, "yesno c width 1;");
        x.publish();
        x.begin();
        x.answer(2, 2, 1);
        due(1, x.inForce(2, 3, 2));
        due(-1, x.inForce(2, 2, 2));
        says("Returns the answer; INVALID for an invalid argument; NOT_FOUND if the field is not in force.");
        for (int wrong : FAR) {
            due(-1, x.inForce(0, 0, wrong));
        }
        due(-1, x.inForce(0, 0, 24));
        due(-2, x.inForce(0, 3, 2));
        x.answer(0, 0, 0);
        due(0, x.inForce(0, 0, 0));
        due(-2, x.inForce(0, 0, 1));
        x.answer(0, 0, -2);
        due(-2, x.inForce(0, 0, 0));
    }

    private static void open() {
        section("Promise 31");
        says("Returns the shown fields that are not in force.");
        FormDesigner x = sheet(SAMPLE);
        due(1 | 8 | 16, x.open(0));
        x.answer(0, 0, 1);
        due(2 | 8, x.open(0));
        x.answer(0, 1, 0);
        due(8, x.open(0));
        x.answer(0, 3, 9);
        due(0, x.open(0));
        says("- `sheet`: a sheet");
        x.begin();
        due(1 | 8 | 16, x.open(1));
        due(0, x.open(0));
        says("Returns a bit mask of fields of its revision; INVALID for an invalid argument.");
        x.setKind(3, 0, 0, 8);
        insert(x, -2, "yesno z width 1;");
        x.publish();
        due(0, x.open(0));
        x.advance(0);
        due(8 | 32, x.open(0));
        for (int wrong : new int[] {2, 9, 10, -1, -2, MAX, MIN}) {
            due(-1, x.open(wrong));
        }
        x = sheet("form 14 14 1;" + groups(0, 8) + fields(0, 24));
        due(0xFFFFFF, x.open(0));
        x = sheet("form 14 14 1;" + groups(0, 8));
        due(0, x.open(0));
    }

    private static void completeness() {
        section("Promise 32");
        says("Returns how complete a sheet is: the number of the fields in force of its revision as a float, divided by the number of the shown fields as a float.");
        FormDesigner x = sheet("form 14 14 1;" + fields(0, 23) + "group gg if a{yesno x width 1;}");
        for (int field = 0; field < 23; field++) {
            due((float) field / 23f, x.completeness(0));
            x.answer(0, field, 0);
        }
        due(1f, x.completeness(0));
        x.answer(0, 0, 1);
        due(23f / 24f, x.completeness(0));
        // Groups do not count, and answers that are not in force neither.
        x.answer(0, 23, 1);
        due(1f, x.completeness(0));
        x.answer(0, 0, -2);
        due(22f / 23f, x.completeness(0));
        says("- `sheet`: a sheet");
        x.begin();
        due(0f, x.completeness(1));
        due(22f / 23f, x.completeness(0));
        says("Returns that number; 1 if no field is shown; -1 for an invalid argument.");
        for (int wrong : new int[] {2, 9, 10, -1, -2, MAX, MIN}) {
            due(-1f, x.completeness(wrong));
        }
        due(1f, sheet("form 14 14 1;").completeness(0));
        due(1f, sheet("form 14 14 1;" + groups(0, 8)).completeness(0));
        // A field that is hidden counts neither way; one whose answer is no value any more is shown.
        x = sheet("form 14 14 1;yesno a width 1 if b;yesno b width 1;");
        x.answer(0, 1, 1);
        x.answer(0, 0, 1);
        due(1f, x.completeness(0));
        x.answer(0, 1, 0);
        due(1f, x.completeness(0));
        x.setKind(1, 0, 1, 9);
        x.publish();
        due(1f, x.completeness(0));
        x.advance(0);
        due(0f, x.completeness(0));
    }

    private static void average() {
        section("Promise 33");
        says("Returns the average of the answers in force of a field: over all sheets, each in its own revision, their sum as a float divided by their number as a float.");
        FormDesigner x = sheet("form 14 14 1;number 0 9999 a width 1;number 0 9999 b width 1 if a;");
        for (int i = 1; i < 10; i++) {
            x.begin();
        }
        int sum = 0;
        for (int sheet = 0; sheet < 10; sheet++) {
            int value = sheet % 2 == 0 ? 9999 - sheet : sheet;
            x.answer(sheet, 0, value);
            sum += value;
            due((float) sum / (float) (sheet + 1), x.average(0));
        }
        x.answer(0, 1, 7);
        x.answer(1, 1, 8);
        due(7.5f, x.average(1));
        x.answer(0, 0, 0);
        due(8f, x.average(1));
        x.setKind(1, 0, 0, 7);
        x.publish();
        due(8f, x.average(1));
        x.advance(1);
        due(-1f, x.average(1));
        says("- `field`: the number of a field");
        for (int none : new int[] {2, 23, 24, 25, 31, 32, -1, -2, MAX, MIN}) {
            due(-1f, x.average(none));
        }
        // A field that the draft has no more still has its answers, each in its sheet's revision.
        x.answer(0, 0, 5);
        x.remove(1);
        due(7f, x.average(1));
        says("Returns the average; -1 if there are none.");
        x.answer(0, 0, 0);
        due(-1f, x.average(1));
        due(-1f, new FormDesigner().average(0));
        x = sheet("form 14 14 1;yesno a width 1;");
        due(-1f, x.average(0));
        x.answer(0, 0, 0);
        due(0f, x.average(0));
    }

    private static void tally() {
        section("Promise 34");
        says("Counts how often a value is in force for a field: over all sheets, each in its own revision.");
        FormDesigner x = sheet("form 14 14 1;number 0 9999 a width 1;number 0 9999 b width 1 if a;");
        x.begin();
        x.begin();
        for (int sheet = 0; sheet < 3; sheet++) {
            x.answer(sheet, 0, 9999);
            x.answer(sheet, 1, sheet / 2);
        }
        due(3, x.tally(0, 9999));
        due(2, x.tally(1, 0));
        due(1, x.tally(1, 1));
        x.answer(0, 0, 0);
        due(1, x.tally(1, 0));
        due(1, x.tally(0, 0));
        x.setKind(1, 0, 1, 1);
        x.publish();
        due(1, x.tally(1, 0));
        x.advance(1);
        x.advance(2);
        due(0, x.tally(1, 0));
        due(1, x.tally(1, 1));
        says("- `field`: the number of a field");
        for (int none : new int[] {2, 23, 24, 25, 31, 32, -1, -2, MAX, MIN}) {
            for (int value : new int[] {0, 1, -1, -2}) {
                due(0, x.tally(none, value));
            }
        }
        x.remove(1);
        due(1, x.tally(1, 1));
        says("- `value`: a value");
        for (int value : new int[] {2, 9998, 10000, -1, -2, -3, MAX, MIN}) {
            due(0, x.tally(0, value));
            due(0, x.tally(1, value));
        }
        says("Returns the number of sheets.");
        due(0, new FormDesigner().tally(0, 0));
        x = sheet("form 14 14 1;yesno a width 1;");
        for (int i = 1; i < 10; i++) {
            x.begin();
        }
        for (int sheet = 0; sheet < 10; sheet++) {
            due(sheet, x.tally(0, 1));
            x.answer(sheet, 0, 1);
        }
        due(10, x.tally(0, 1));
        due(0, x.tally(0, 0));
        due(0, x.tally(0, -2));
    }

    // ---- layouts

    private static void rows() {
        section("Promise 35");
        says("Returns the number of rows of a layout.");
        FormDesigner x = sheet(SAMPLE);
        due(1, x.rows(false, 0));
        due(6, x.rows(true, 0));
        x.answer(0, 0, 1);
        x.answer(0, 1, 1);
        due(4, x.rows(false, 0));
        due(6, x.rows(true, 0));
        says("- `print`: true for the print layout of a revision, false for the screen layout of a sheet");
        x.remove(24);
        x.publish();
        due(2, x.rows(true, 1));
        due(-1, x.rows(false, 1));
        x.begin();
        x.begin();
        due(-1, x.rows(true, 2));
        due(1, x.rows(false, 2));
        says("- `of`: the revision or the sheet");
        due(4, x.rows(false, 0));
        due(1, x.rows(false, 1));
        due(6, x.rows(true, 0));
        says("Returns the number of rows; INVALID for an invalid argument.");
        for (boolean print : new boolean[] {true, false}) {
            for (int wrong : new int[] {3, 8, 10, -1, -2, MAX, MIN}) {
                due(-1, x.rows(print, wrong));
            }
            due(-1, new FormDesigner().rows(print, 0));
            due(0, sheet("form 14 14 1;").rows(print, 0));
            due(24, sheet("form 14 14 60;" + fields(0, 24).replace("width 1", "width 10")).rows(print, 0));
            due(print ? 15 : 8, sheet("form 14 14 2;" + groups(0, 8)).rows(print, 0));
        }
    }

    private static void place() {
        section("Promise 36");
        says("Returns where a node stands in a layout.");
        FormDesigner x = sheet(SAMPLE);
        x.answer(0, 0, 1);
        due(2, x.place(false, 0, 1, false));
        due(1, x.place(false, 0, 1, true));
        says("- `print`: true for the print layout of a revision, false for the screen layout of a sheet");
        due("-2,-2", at(x, false, 0, 4));
        due("5,0", at(x, true, 0, 4));
        says("- `of`: the revision or the sheet");
        x.remove(24);
        x.publish();
        x.begin();
        due("0,12", at(x, false, 1, 4));
        due("1,0", at(x, true, 1, 4));
        due("5,0", at(x, true, 0, 4));
        says("- `node`: a node of that revision (of the revision of the sheet)");
        due("-1,-1", at(x, false, 1, 24));
        due("-1,-1", at(x, true, 1, 24));
        due("1,0", at(x, true, 0, 24));
        due("1,0", at(x, false, 0, 24));
        for (int wrong : FAR) {
            due("-1,-1", at(x, false, 0, wrong));
            due("-1,-1", at(x, true, 0, wrong));
        }
        says("- `column`: true for its column, false for its row");
        due(12, x.place(false, 1, 4, true));
        due(0, x.place(false, 1, 4, false));
        says("Returns that number; INVALID for an invalid argument; NOT_FOUND if the layout does not contain it.");
        for (int wrong : new int[] {2, 8, 10, -1, -2, MAX, MIN}) {
            due("-1,-1", at(x, true, wrong, 0));
            due("-1,-1", at(x, false, wrong, 0));
        }
        x.answer(0, 0, 0);
        due("-2,-2", at(x, false, 0, 24));
        due("-2,-2", at(x, false, 0, 1));
        due("0,12", at(x, false, 0, 4));
    }

    private static void pages() {
        section("Promise 37");
        says("Returns the number of pages of the print layout of a revision.");
        FormDesigner x = sheet("form 60 14 2;yesno a width 10;yesno b width 10;yesno c width 10;");
        due(2, x.pages(0));
        says("- `revision`: a revision");
        x.remove(0);
        x.publish();
        due(1, x.pages(1));
        due(2, x.pages(0));
        says("Returns the number of rows divided by PAGE and rounded up; INVALID for an invalid argument.");
        for (int wrong : new int[] {2, 7, 8, -1, -2, MAX, MIN}) {
            due(-1, x.pages(wrong));
        }
        int[] want = {24, 12, 8, 6, 5, 4, 4, 3, 3, 3, 3, 2};
        for (int page = 1; page <= 60; page++) {
            x = sheet("form 60 14 " + page + ";" + fields(0, 24).replace("width 1", "width 10"));
            due(page <= 12 ? want[page - 1] : page < 24 ? 2 : 1, x.pages(0));
        }
        due(0, sheet("form 14 14 1;").pages(0));
        due(0, sheet("form 14 14 60;").pages(0));
        // A row that is left free at the end of a page counts.
        due(2, sheet("form 14 14 2;group a{}group b{}").pages(0));
        due(1, sheet("form 14 14 3;group a{}group b{}").pages(0));
    }

    private static void textLength() {
        section("Promise 38");
        says("Returns the length of the text of a layout.");
        FormDesigner x = sheet("form 40 40 2;number 0 9999 abc width 10;number 0 9999 abcdefgh width 10;number 0 9999 x width 1;group abcdefgz{group z{yesno y width 3;}}");
        due(46, x.textLength(true, 0));
        due(44, x.textLength(false, 0));
        says("It has a line for each row, and a line feed (byte 10) at the end of each line.");
        due("abc_______ abcdefgh__ x\n\n#abcdefgz\n\n #z\n  y__\n", text(x, true, 0));
        due("abc_______ abcdefgh__ x\n#abcdefgz\n #z\n  y__\n", text(x, false, 0));
        due(6, x.rows(true, 0));
        due(4, x.rows(false, 0));
        for (int i : new int[] {23, 24, 34, 35, 39, 45}) {
            due(10, x.textByte(true, 0, i));
        }
        says("A field takes as many bytes as its width: its name, in the screen layout, if it is in force, followed by an equals sign (byte 61) and its answer in decimal;");
        int[] values = {0, 9, 10, 99, 100, 500, 999, 1000, 1001, 9999};
        for (int value : values) {
            x.answer(0, 0, value);
            due(("abc=" + value + "______").substring(0, 10), text(x, false, 0).substring(0, 10));
            due("abc_______", text(x, true, 0).substring(0, 10));
        }
        says("this is cut off at its width or filled up with underscores (byte 95).");
        x.answer(0, 1, 5678);
        due("abcdefgh=5", text(x, false, 0).substring(11, 21));
        due("abcdefgh__", text(x, true, 0).substring(11, 21));
        x.answer(0, 2, 7);
        due("x\n", text(x, false, 0).substring(22, 24));
        for (int width = 1; width <= 10; width++) {
            FormDesigner y = sheet("form 40 40 9;number 0 9999 name width " + width + ";");
            due("name______".substring(0, width) + "\n", text(y, false, 0));
            y.answer(0, 0, 1234);
            due("name=1234_".substring(0, width) + "\n", text(y, false, 0));
            due("name______".substring(0, width) + "\n", text(y, true, 0));
        }
        says("A group takes a number sign (byte 35) and its name.");
        due("#abcdefgz\n #z\n", text(x, false, 0).substring(24, 38));
        says("Everything else up to the last byte of a line that is taken is filled with spaces.");
        due("  y__\n", text(x, false, 0).substring(38));
        due("abc=9999__ abcdefgh=5 x\n", text(x, false, 0).substring(0, 24));
        says("- `print`: true for the print layout of a revision, false for the screen layout of a sheet");
        due(44, x.textLength(false, 0));
        due(46, x.textLength(true, 0));
        says("- `of`: the revision or the sheet");
        x.publish();
        x.remove(0);
        x.publish();
        due(x.textLength(true, 0), x.textLength(true, 1));
        due(x.textLength(true, 0) - 11, x.textLength(true, 2));
        due(44, x.textLength(false, 0));
        says("Returns the number of bytes; INVALID for an invalid argument.");
        for (boolean print : new boolean[] {true, false}) {
            for (int wrong : new int[] {3, 8, 10, -1, -2, MAX, MIN}) {
                due(-1, x.textLength(print, wrong));
            }
            due(0, sheet("form 14 14 1;").textLength(print, 0));
        }
        due(-1, x.textLength(false, 1));
    }

    private static void textByte() {
        section("Promise 39");
        says("Returns a byte of the text of a layout.");
        FormDesigner x = sheet("form 40 40 2;yesno a width 3;group g{yesno b width 2;}");
        x.answer(0, 0, 1);
        String screen = "a=1\n#g\n b_\n";
        String print = "a__\n\n#g\n b_\n";
        for (int i = 0; i < screen.length(); i++) {
            due((int) screen.charAt(i), x.textByte(false, 0, i));
        }
        says("- `print`: true for the print layout of a revision, false for the screen layout of a sheet");
        for (int i = 0; i < print.length(); i++) {
            due((int) print.charAt(i), x.textByte(true, 0, i));
        }
        says("- `of`: the revision or the sheet");
        x.remove(0);
        x.publish();
        due(35, x.textByte(true, 1, 0));
        due(97, x.textByte(true, 0, 0));
        due(97, x.textByte(false, 0, 0));
        says("- `i`: position, from 0");
        due(61, x.textByte(false, 0, 1));
        due(10, x.textByte(false, 0, screen.length() - 1));
        says("Returns the byte; INVALID for an invalid argument or a negative i; NOT_FOUND if the text is not so long.");
        for (int i : new int[] {screen.length(), screen.length() + 1, MAX}) {
            due(-2, x.textByte(false, 0, i));
        }
        due(-2, x.textByte(true, 0, print.length()));
        for (boolean way : new boolean[] {true, false}) {
            for (int i : new int[] {-1, -2, MIN}) {
                due(-1, x.textByte(way, 0, i));
            }
            for (int wrong : new int[] {2, 8, 10, -1, -2, MAX, MIN}) {
                due(-1, x.textByte(way, wrong, 0));
                due(-1, x.textByte(way, wrong, MAX));
            }
            due(-2, sheet("form 14 14 1;").textByte(way, 0, 0));
        }
    }

    private static void setupLength() {
        section("Promise 40");
        says("Returns the length of the setup text that describes the draft.");
        FormDesigner x = new FormDesigner();
        due(14, x.setupLength());
        due(SAMPLE.length(), form(SAMPLE).setupLength());
        String full = "form 14 14 1;" + fields(0, 24) + groups(0, 8);
        due(full.length(), form(full).setupLength());
        says("Tokens are separated by one space, but there is no space before a semicolon, and nothing between a semicolon, an opening or a closing brace and the next token; an opening brace follows its predecessor directly;");
        x = form("\nform 14  15\n16 ; group a { } yesno b width 1 ; group c if b=1or not(b<2) { yesno d width 2 if((b or b)and b) ; group e { } } group f { }\n");
        due("form 14 15 16;group a{}yesno b width 1;group c if b = 1 or not b < 2{yesno d width 2 if ( b or b ) and b;group e{}}group f{}", setup(x));
        says("numbers are in decimal without leading zeros.");
        x = form("form 0014 060 001;number 0000 0010 a width 010;number 0099 0100 b width 01 if a=000 or a<0007 or a>0999;number 0999 1000 c width 1;number 9 9999 d width 1;choice 02 e width 1;");
        due("form 14 60 1;number 0 10 a width 10;number 99 100 b width 1 if a = 0 or a < 7 or a > 999;number 999 1000 c width 1;number 9 9999 d width 1;choice 2 e width 1;", setup(x));
    }

    private static void setupParentheses() {
        says("Parentheses stand only where they are needed: around a disjunction (\"or\") within a conjunction or behind \"not\", and around a conjunction behind \"not\".");
        FormDesigner x = form("form 14 14 1;yesno a width 1;yesno b width 1;yesno c width 1;yesno d width 1;");
        String head = "form 14 14 1;yesno a width 1;yesno b width 1;yesno c width 1;yesno d width 1 if ";
        String[][] texts = {{"a or b and c", "a or b and c"}, {"(a or b)and c", "( a or b ) and c"}, {"a and(b or c)", "a and ( b or c )"},
            {"(a and b)or c", "a and b or c"}, {"(a or b)or c", "a or b or c"}, {"a or(b or c)", "a or b or c"}, {"a and(b and c)", "a and b and c"},
            {"(a and b)and c", "a and b and c"}, {"not(a or b)", "not ( a or b )"}, {"not(a and b)", "not ( a and b )"}, {"not(not a)", "not not a"},
            {"not(a=1)", "not a = 1"}, {"(not a)and b", "not a and b"}, {"not((a or b))", "not ( a or b )"}, {"((((((a))))))", "a"},
            {"not(not(a or b)and c)", "not ( not ( a or b ) and c )"}, {"(a or(b and(c or a)))and b", "( a or b and ( c or a ) ) and b"},
            {"(a)or((b)and(c))", "a or b and c"}, {"not not not not not not a", "not not not not not not a"}, {"(a>1)and((b))", "a > 1 and b"},
            {"a and((b and(c or(a or b)))and c)", "a and b and ( c or a or b ) and c"}, {"(a and b)and(c or a)", "a and b and ( c or a )"}};
        for (String[] text : texts) {
            due(true, condition(x, 3, text[0]) > 0);
            due(head + text[1] + ";", setup(x));
            // The text that comes out says the same of itself.
            String again = setup(x);
            due(again, setup(form(again)));
        }
        says("Returns the number of bytes.");
        due(head.length() + "a and b and ( c or a );".length(), x.setupLength());
    }

    private static void setupByte() {
        section("Promise 41");
        says("Returns a byte of that setup text.");
        FormDesigner x = form(SAMPLE);
        for (int i = 0; i < SAMPLE.length(); i++) {
            due((int) SAMPLE.charAt(i), x.setupByte(i));
        }
        says("- `i`: position, from 0");
        due(102, x.setupByte(0));
        due(59, x.setupByte(SAMPLE.length() - 1));
        says("Returns the byte; INVALID for a negative i; NOT_FOUND if the text is not so long.");
        for (int i : new int[] {SAMPLE.length(), SAMPLE.length() + 1, MAX}) {
            due(-2, x.setupByte(i));
        }
        for (int i : new int[] {-1, -2, MIN}) {
            due(-1, x.setupByte(i));
        }
        due(-2, new FormDesigner().setupByte(14));
        due(59, new FormDesigner().setupByte(13));
    }

    private static void tapeLength() {
        section("Promise 42");
        says("Returns the length of the tape.");
        FormDesigner x = new FormDesigner();
        due(0, x.tapeLength());
        for (int i = 1; i <= 60; i++) {
            x.append(0, 0, 0, 0, 0);
            due(20 * i, x.tapeLength());
        }
        x.append(0, 0, 0, 0, 0);
        due(1200, x.tapeLength());
        says("Returns the length.");
        x.truncate(1);
        due(1199, x.tapeLength());
        x.truncate(1200);
        due(1199, x.tapeLength());
        x.setCondition(0);
        x.insert(0);
        due(1199, x.tapeLength());
        x.insert(-2);
        due(0, x.tapeLength());
    }
}
