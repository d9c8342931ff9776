/** For each promise of the document: ordinary inputs, the edges that it names, and wrong inputs. */
public final class PromiseTests extends Calls {
    public static void main(String[] args) {
        newObject();
        append();
        truncate();
        load();
        loadErrors();
        loadConditionErrors();
        insert();
        insertErrors();
        insertLimits();
        setCondition();
        setConditionErrors();
        errorPosition();
        rename();
        remove();
        move();
        moveLimits();
        setKind();
        publish();
        begin();
        answer();
        advance();
        undo();
        undoEach();
        value();
        node();
        letter();
        named();
        nodeAt();
        dependsOn();
        dependents();
        inOrder();
        wouldRefuse();
        exists();
        revisionOf();
        answers();
        isShown();
        conditions();
        inForce();
        open();
        completeness();
        average();
        tally();
        rows();
        place();
        pages();
        textLength();
        textByte();
        setupLength();
        setupByte();
        tapeLength();
        end("PromiseTests");
    }

    private static void start(int number) {
        about("promise " + number);
    }

    // ---- texts

    private static void newObject() {
        start(1);
        FormDesigner x = new FormDesigner();
        due(40, x.value(0));
        due(40, x.value(1));
        due(20, x.value(2));
        for (int what = 3; what <= 9; what++) {
            due(0, x.value(what));
        }
        due("form 40 40 20;", setup(x));
        due(0, x.tapeLength());
        due(-2, x.errorPosition());
        due(-2, x.nodeAt(0));
        due(-1, x.undo());
        due(-1, x.rows(true, 0));
        due(-1, x.rows(false, 0));
        due(-2, x.begin());
        due(-1, FormDesigner.INVALID);
        due(-2, FormDesigner.NOT_FOUND);
    }

    private static void append() {
        start(2);
        FormDesigner x = new FormDesigner();
        due(20, x.append(0x666F726D, 0x31343135, 0x20373B79, 0x65736E6F, 0x0A612077));
        due(40, x.append(0x69647468, 0x20323B20, 0x0A0A0A20, 0x20202020, 0x0A202020));
        due(-1, x.load());
        due(4, x.errorPosition());
        x.append(0x666F726D, 0x20313420, 0x31352020, 0x20373B79, 0x65736E6F);
        x.append(0x0A612077, 0x69647468, 0x20323B20, 0x0A0A0A20, 0x20202020);
        due(1, x.load());
        due("form 14 15 7;yesno a width 2;", setup(x));
        for (int i = 1; i <= 60; i++) {
            due(20 * i, x.append(-1, -1, -1, -1, -1));
        }
        due(-1, x.append(1, 2, 3, 4, 5));
        due(1200, x.tapeLength());
        due(1181, x.truncate(19));
        due(-1, x.append(1, 2, 3, 4, 5));
        due(1180, x.truncate(1));
        due(1200, x.append(MIN, MAX, 0, 0, 0));
        due(-1, x.load());
        due(0, x.errorPosition());
        String late = "form 40 40 20;" + " ".repeat(1185) + "!";
        due(1199, wrongAt(late));
    }

    private static void truncate() {
        start(3);
        FormDesigner x = new FormDesigner();
        due(0, x.truncate(0));
        due(-1, x.truncate(1));
        due(-1, x.truncate(-1));
        x.append(0, 0, 0, 0, 0);
        due(20, x.truncate(0));
        due(-1, x.truncate(21));
        due(-1, x.truncate(MAX));
        due(-1, x.truncate(MIN));
        due(20, x.tapeLength());
        due(13, x.truncate(7));
        due(0, x.truncate(13));
        put(x, "form 14 14 1;####");
        due(13, x.truncate(4));
        due(0, x.load());
    }

    private static void load() {
        start(4);
        FormDesigner x = new FormDesigner();
        due(5, load(x, SAMPLE));
        due(0, x.tapeLength());
        due(-2, x.errorPosition());
        due(SAMPLE, setup(x));
        x.publish();
        x.begin();
        due(-1, load(x, "form 40 40 20"));
        due(13, x.errorPosition());
        due(0, x.tapeLength());
        due(SAMPLE, setup(x));
        due(1, x.value(5));
        due(1, x.value(6));
        due(1, x.undo());
        x.begin();
        due(1, load(x, "\n form 014 0060 \n1;number 0007 7 zz width 010;\n"));
        due("form 14 60 1;number 7 7 zz width 10;", setup(x));
        due(0, x.value(5));
        due(0, x.value(6));
        due(1, x.value(7));
        due(0, x.value(8));
        due(-1, x.undo());
        due(0, load(x, "form 14 14 60;group a{group b{group c{group d{}}}}"));
        due(4, x.value(8));
        due(24, load(x, "form 60 14 60;" + fields(0, 24)));
        due(3, load(x, "form14 14 1;yesno a width 1 if c;group g if b{}yesno b width 1;choice 9 c width 1 if b>9999;"));
        due(4, x.dependsOn(0));
        due(2, x.dependsOn(2));
        due("form 14 14 1;yesno a width 1 if c;group g if b{}yesno b width 1;choice 9 c width 1 if b > 9999;", setup(x));
    }

    private static void loadErrors() {
        due(0, wrongAt(""));
        due(3, wrongAt(" \n "));
        due(0, wrongAt("fork 14 14 1;"));
        due(0, wrongAt("former 14 14 1;"));
        due(5, wrongAt("form 13 14 1;"));
        due(5, wrongAt("form 61 14 1;"));
        due(8, wrongAt("form 14 13 1;"));
        due(8, wrongAt("form 14 61 1;"));
        due(11, wrongAt("form 14 14 0;"));
        due(11, wrongAt("form 14 14 61;"));
        due(5, wrongAt("form 00014 14 1;"));
        due(5, wrongAt("form a 14 1;"));
        due(5, wrongAt("form yesno a width 1;"));
        due(8, wrongAt("form 14 group a{}"));
        due(11, wrongAt("form 14 14 choice 2 a width 1;"));
        due(13, wrongAt("form 14 14 1 yesno a width 1;"));
        due(12, wrongAt("form 14 14 1"));
        due(14, wrongAt("form 14 14 1  "));
        due(13, wrongAt("form 14 14 1;}"));
        due(13, wrongAt("form 14 14 1;form"));
        due(13, wrongAt("form 14 14 1;;"));
        due(13, wrongAt("form 14 14 1;\t"));
        due(13, wrongAt("form 14 14 1;A"));
        due(13, wrongAt("form 14 14 1;" + (char) 225));
        due(13, wrongAt("form 14 14 1;Yesno a width 1;"));
        due(19, wrongAt("form 14 14 1;yesno or width 1;"));
        due(19, wrongAt("form 14 14 1;yesno abcdefghi width 1;"));
        due(21, wrongAt("form 14 14 1;yesno a if b width 1;"));
        due(27, wrongAt("form 14 14 1;yesno a width 0;"));
        due(27, wrongAt("form 14 14 1;yesno a width 11;"));
        due(28, wrongAt("form 14 14 1;yesno a width 1"));
        due(21, wrongAt("form 14 14 1;yesno a yesno b width 1;"));
        due(20, wrongAt("form 14 14 1;number yesno a width 1;"));
        due(22, wrongAt("form 14 14 1;number 5 group a{}"));
        due(20, wrongAt("form 14 14 1;choice group a{}"));
        due(27, wrongAt("form 14 14 1;yesno a width yesno b width 1;"));
        due(19, wrongAt("form 14 14 1;yesno yesno b width 1;"));
        due(19, wrongAt("form 14 14 1;group group b{}"));
        due(21, wrongAt("form 14 14 1;group a group b{}"));
        due(28, wrongAt("form 14 14 1;yesno a width 1}"));
        due(20, wrongAt("form 14 14 1;choice 1 a width 1;"));
        due(20, wrongAt("form 14 14 1;choice 10 a width 1;"));
        due(20, wrongAt("form 14 14 1;number a width 1;"));
        due(22, wrongAt("form 14 14 1;number 5 4 a width 1;"));
        due(22, wrongAt("form 14 14 1;number 5 10000 a width 1;"));
        due(22, wrongAt("form 14 14 1;number 5 a width 1;"));
        due(35, wrongAt("form 14 14 1;yesno a width 1;yesno a width 1;"));
        due(35, wrongAt("form 14 14 1;yesno a width 1;group a {}"));
        due(27, wrongAt("form 14 14 1;group a{yesno a width 1;}"));
        due(22, wrongAt("form 14 14 1;group a {"));
        due(22, wrongAt("form 14 14 1;group a{}}"));
        due(20, wrongAt("form 14 14 1;group a;"));
        due(13 + 32, wrongAt("form 14 14 1;group a{group b{group c{group d{group e{}}}}}"));
        String eight = "form 14 14 1;group a{}group b{}group c{}group d{}group e{}group f{}group g{}group h{}";
        due(1000, wrongAt(eight));
        due(eight.length(), wrongAt(eight + "group i{}"));
        String full = "form 14 14 1;" + fields(0, 24);
        due(full.length() + 1, wrongAt(full + " number 5 4 x width 1;"));
        due(full.length(), wrongAt(full + "choice 5 x width 1;"));
        due(full.length(), wrongAt(full + "yesno 5 x width 1;"));
    }

    private static void loadConditionErrors() {
        String a = "form 14 14 1;yesno a width 1;yesno b width 1 if ";
        int at = a.length();
        due(1002, wrongAt(a + "a;"));
        due(at, wrongAt(a + ";"));
        due(at + 2, wrongAt(a + "a a;"));
        due(at + 4, wrongAt(a + "a = a;"));
        due(at + 4, wrongAt(a + "a = 12345;"));
        due(at + 5, wrongAt(a + "a or ;"));
        due(at + 6, wrongAt(a + "a and or a;"));
        due(at + 2, wrongAt(a + "a ) ;"));
        due(at + 3, wrongAt(a + "(a ;"));
        due(at + 4, wrongAt(a + "(a  "));
        due(at + 1, wrongAt(a + "()"));
        due(at + 3, wrongAt(a + "not=1;"));
        due(at + 2, wrongAt(a + "a # 1;"));
        due(at + 3, wrongAt(a + "a <= 1;"));
        due(1002, wrongAt(a + "((((((a))))));"));
        due(at + 6, wrongAt(a + "(((((((a)))))));"));
        due(1002, wrongAt(a + "not not not not not not a;"));
        due(at + 24, wrongAt(a + "not not not not not not not a;"));
        due(at + 24, wrongAt(a + "not not not not not not (a);"));
        due(1002, wrongAt(a + "not(not(not(a)))and not(not(not a));"));
        due(at + 12, wrongAt(a + "not(not(not(not a)));"));
        // A name that is no field comes after every token, a circle after every name.
        due(at, wrongAt(a + "x;"));
        due(at + 2, wrongAt(a + "x;#"));
        due(at + 5, wrongAt(a + "b or x;"));
        due(at, wrongAt(a + "b;"));
        due(at + 5, wrongAt(a + "a or b;"));
        due(at, wrongAt(a + "g;group g{}"));
        due(at + 20, wrongAt(a + "c;yesno c width 1if b or c;"));
        due(24, wrongAt("form 14 14 1;group g if a{yesno a width 1;}"));
        due(24, wrongAt("form 14 14 1;group g if a{group h{yesno a width 1;}}"));
        String two = "form 14 14 1;yesno a width 1 if b;group g if ";
        due(two.length() + 5, wrongAt(two + "c or a{yesno b width 1;}yesno c width 1;"));
    }

    private static void insert() {
        start(5);
        FormDesigner x = form(SAMPLE);
        due(1, insert(x, 0, "yesno new width 3;"));
        due(0, x.node(5, 4));
        due(2, x.node(5, 5));
        due(0, x.tapeLength());
        due(-2, x.errorPosition());
        due(2, insert(x, -2, "group g if new{number 1 2 p width 1;group h{choice 2 q width 2 if p;}}"));
        due(-2, x.node(25, 4));
        due(4, x.node(25, 5));
        due(1, x.node(26, 4));
        due(96, x.dependsOn(7));
        due("form 40 30 5;yesno pet width 6;group animal if pet{choice 3 kind width 8;"
                + "number 0 40 age width 4 if kind = 1 or kind = 2;yesno new width 3;}number 5 9 rest width 4;"
                + "yesno last width 10 if not pet;group g if new{number 1 2 p width 1;"
                + "group h{choice 2 q width 2 if p;}}", setup(x));
        due(0, insert(x, 2, "group i{}"));
        due(2, x.node(27, 4));
        due(2, x.node(27, 6));
        due(-2, insert(x, 3, " \n "));
        due(0, x.tapeLength());
        due(-2, insert(x, 3, ""));
        due(-2, x.errorPosition());
        due(2, x.undo());
        due(0, insert(x, 0, "group j{}"));
        due(27, x.nodeAt(5));
    }

    private static void insertErrors() {
        FormDesigner x = form(SAMPLE);
        String before = setup(x);
        due(-1, insert(x, 0, "yesno p width 1; yesno kind width 1;"));
        due(23, x.errorPosition());
        due(0, x.tapeLength());
        put(x, "yesno p width 1;");
        due(-1, x.insert(1));
        due(-1, x.insert(-1));
        due(-1, x.insert(-3));
        due(-1, x.insert(8));
        due(-1, x.insert(24));
        due(-1, x.insert(MAX));
        due(-1, x.insert(MIN));
        due(16, x.tapeLength());
        due(23, x.errorPosition());
        due(before, setup(x));
        due(1, x.insert(0));
        due(-1, insert(x, -2, "yesno q width 1 if q;"));
        due(19, x.errorPosition());
        due(-1, insert(x, 0, "yesno q width 1 if animal;"));
        due(19, x.errorPosition());
        due(-1, insert(x, 0, "yesno q width 1;}"));
        due(16, x.errorPosition());
        due(-1, insert(x, 0, "form 14 14 1;"));
        due(0, x.errorPosition());
        due(-1, insert(x, 0, "group r if q{yesno s width 1 if pet;yesno q width 1;}"));
        due(11, x.errorPosition());
        due(6, x.value(7));
        due(1, x.value(8));
        due(1, insert(x, 0, "yesno q width 1 if age>3;"));
        due(5, x.dependsOn(6));
        due(1, x.undo());
    }

    private static void insertLimits() {
        FormDesigner x = form("form 14 14 1;" + fields(0, 23) + "group ga{group gb{group gc{}}}");
        due(-1, insert(x, -2, "yesno x width 1;number 0 1 y width 1;"));
        due(16, x.errorPosition());
        due(-1, insert(x, 2, "group gd{group ge{}}"));
        due(9, x.errorPosition());
        due(0, insert(x, 2, "group gd{}"));
        due(-1, insert(x, 3, "group ge{}"));
        due(0, x.errorPosition());
        due(1, insert(x, 3, "yesno x width 1;"));
        due(1, x.remove(23));
        due(-1, insert(x, 3, "yesno z width 1;"));
        due(0, x.errorPosition());
        due(0, insert(x, -2, "group ge{}group gf{}group gg{}group gh{}"));
        due(0, x.remove(31));
        due(-1, insert(x, -2, " group gi{}"));
        due(1, x.errorPosition());
        // An undone insert() gives its numbers back, an undone remove() does not.
        x.undo();
        x.undo();
        due(4, x.value(8));
        due(24, x.value(7));
        x.undo();
        x.undo();
        due(23, x.value(7));
        due(1, insert(x, -2, "yesno again width 1;"));
        due(2, x.node(23, 0));
    }

    private static void setCondition() {
        start(6);
        FormDesigner x = form(SAMPLE);
        due(3, condition(x, 3, "pet and not (kind < 2 or age)"));
        due(3, x.node(3, 7));
        due(7, x.dependsOn(3));
        due(0, x.tapeLength());
        due(-2, x.errorPosition());
        due(3, condition(x, 3, "pet and not (kind < 2 or age)"));
        due(1, x.undo());
        due(0, x.undo());
        due(0, x.node(3, 7));
        due(-1, x.undo());
        due(0, condition(x, 2, ""));
        due(0, x.node(2, 7));
        due(1, x.dependsOn(2));
        due(0, condition(x, 2, " \n"));
        due(1, condition(x, 24, "rest = 7"));
        due(8, x.dependsOn(1));
        due(8, x.dependsOn(2));
        due(2, x.value(9));
        due(0, condition(x, 24, ""));
        due(1, x.value(9));
        due(1, condition(x, 0, "age"));
        due(4, x.dependsOn(0));
        due(1, condition(x, 2, "rest"));
        due(1, condition(x, 2, "rest"));
        due(2, condition(x, 2, "rest or rest"));
    }

    private static void setConditionErrors() {
        FormDesigner x = form(SAMPLE);
        String before = setup(x);
        put(x, "pet");
        for (int node : new int[] {5, 25, -1, -2, 32, 23, MAX, MIN}) {
            due(-1, x.setCondition(node));
        }
        due(3, x.tapeLength());
        due(1, x.setCondition(3));
        due(0, x.undo());
        due(-1, condition(x, 3, "pet;"));
        due(3, x.errorPosition());
        due(0, x.tapeLength());
        due(-1, condition(x, 3, "pet and  "));
        due(9, x.errorPosition());
        due(-1, condition(x, 3, "if pet"));
        due(0, x.errorPosition());
        due(-1, condition(x, 3, "pet or animal"));
        due(7, x.errorPosition());
        due(-1, condition(x, 3, "rest or kin"));
        due(8, x.errorPosition());
        due(-1, condition(x, 3, "pet or rest"));
        due(7, x.errorPosition());
        due(-1, condition(x, 24, "last or rest or age"));
        due(16, x.errorPosition());
        due(-1, condition(x, 0, "rest or last"));
        due(8, x.errorPosition());
        due(-1, condition(x, 0, "rest or kind"));
        due(8, x.errorPosition());
        due(before, setup(x));
        due(-1, x.undo());
    }

    private static void errorPosition() {
        start(7);
        FormDesigner x = new FormDesigner();
        due(-2, x.errorPosition());
        due(-1, load(x, "form 14 14 1;x"));
        due(13, x.errorPosition());
        x.publish();
        x.undo();
        x.append(0, 0, 0, 0, 0);
        due(13, x.errorPosition());
        x.truncate(20);
        due(-1, x.setCondition(0));
        due(13, x.errorPosition());
        due(-2, insert(x, -2, ""));
        due(-2, x.errorPosition());
        due(-1, insert(x, -2, "y"));
        due(0, x.errorPosition());
        due(1, insert(x, -2, "yesno y width 1;"));
        due(-2, x.errorPosition());
        due(-1, condition(x, 0, "y"));
        due(0, x.errorPosition());
        due(0, condition(x, 0, ""));
        due(-2, x.errorPosition());
    }

    // ---- the draft

    private static void rename() {
        start(8);
        FormDesigner x = form(SAMPLE);
        due(true, x.rename(1, letters("sort")));
        due("form 40 30 5;yesno pet width 6;group animal if pet{choice 3 sort width 8;"
                + "number 0 40 age width 4 if sort = 1 or sort = 2;}number 5 9 rest width 4;"
                + "yesno last width 10 if not pet;", setup(x));
        due(true, x.rename(24, letters("kind")));
        due(true, x.rename(0, letters("zzzzzz")));
        due(true, x.rename(2, letters("a")));
        due(false, x.rename(2, letters("a")));
        due(false, x.rename(2, letters("last")));
        due(false, x.rename(24, letters("rest")));
        for (String keyword : "form group if width number choice yesno or and not".split(" ")) {
            due(false, x.rename(0, letters(keyword)));
        }
        due(true, x.rename(0, letters("orr")));
        due(false, x.rename(5, letters("b")));
        due(false, x.rename(25, letters("b")));
        due(false, x.rename(-1, letters("b")));
        due(false, x.rename(-2, letters("b")));
        due(false, x.rename(32, letters("b")));
        due(false, x.rename(0, 0));
        due(false, x.rename(0, 1 << 30));
        due(false, x.rename(24, letters("orr")));
        due(false, x.rename(0, -1));
        due(false, x.rename(0, letters("b") | 1 << 30));
        due(false, x.rename(0, letters("b") | 1 << 31));
        due(false, x.rename(0, letters("b") | 1));
        due(false, x.rename(0, letters("b") | 1 << 10));
        due(false, x.rename(0, letters("b") >> 5));
        due(false, x.rename(0, 27 << 25));
        due(false, x.rename(0, letters("b") | 27 << 20));
        due(false, x.rename(0, letters("bbbbb") | 31));
        due(4, x.undo());
        due("zzzzzz", name(x, 0));
        due(-2, x.named(letters("orr")));
    }

    private static void remove() {
        start(9);
        FormDesigner x = form(SAMPLE);
        String before = setup(x);
        for (int node : new int[] {5, 25, -1, -2, 32, MAX, MIN}) {
            due(-1, x.remove(node));
        }
        due(-2, x.remove(0));
        due(-2, x.remove(1));
        due(before, setup(x));
        due(-1, x.undo());
        due(1, x.remove(2));
        due(1, x.remove(1));
        due(0, x.remove(24));
        due("form 40 30 5;yesno pet width 6;number 5 9 rest width 4;yesno last width 10 if not pet;", setup(x));
        due(5, x.value(7));
        due(1, x.value(8));
        due(3, x.value(3));
        due(0, x.value(4));
        due(-1, x.remove(24));
        x.undo();
        x.undo();
        x.undo();
        due(before, setup(x));
        due(2, x.remove(24));
        due(-1, x.node(1, 0));
        due(3, x.nodeAt(1));
        due(1, insert(x, -2, "yesno kind width 1 if pet;"));
        due(2, x.node(5, 0));
        x = form("form 14 14 1;group g{yesno a width 1;group h if a{yesno b width 1 if a;}}yesno c width 1;");
        due(2, x.remove(24));
        due(2, x.nodeAt(0));
        due(-2, x.nodeAt(1));
        x = form("form 14 14 1;yesno a width 1 if b;yesno b width 1;");
        due(-2, x.remove(1));
        x = form("form 14 14 1;yesno a width 1;group h if a{}");
        due(-2, x.remove(0));
        due(0, x.remove(24));
        due(1, x.remove(0));
        x = form("form 14 14 1;group g if b{group h{yesno a width 1;}}yesno b width 1;yesno c width 1 if not not a;");
        due(-2, x.remove(25));
        due(-2, x.remove(24));
        due(-2, x.remove(1));
        due(1, x.remove(2));
        due(1, x.remove(25));
    }

    private static void move() {
        start(10);
        FormDesigner x = form(SAMPLE);
        due(false, x.move(0, -2, 0));
        due(true, x.move(0, -2, 3));
        due(3, x.node(0, 5));
        due(24, x.nodeAt(0));
        due(false, x.move(0, -2, 4));
        due(false, x.move(0, -2, -1));
        due(false, x.move(0, -2, MAX));
        due(false, x.move(0, -2, MIN));
        due(true, x.move(3, 0, 1));
        due(3, x.nodeAt(2));
        due(0, x.node(3, 4));
        due(1, x.node(3, 5));
        due(2, x.node(2, 5));
        due(1, x.dependsOn(3));
        due(true, x.move(4, 0, 3));
        due(false, x.move(4, 0, 3));
        due(false, x.move(4, 0, 4));
        due(true, x.move(24, -2, 1));
        due("form 40 30 5;yesno pet width 6;group animal if pet{choice 3 kind width 8;number 5 9 rest width 4;"
                + "number 0 40 age width 4 if kind = 1 or kind = 2;yesno last width 10 if not pet;}", setup(x));
        due(false, x.move(0, 0, 0));
        due(false, x.move(5, 0, 0));
        due(false, x.move(25, 0, 0));
        due(false, x.move(-1, 0, 0));
        due(false, x.move(0, 1, 0));
        due(false, x.move(0, -1, 0));
        due(false, x.move(0, -3, 0));
        due(false, x.move(0, 24, 0));
        due(false, x.move(24, 0, 0));
        due(true, x.move(2, 0, 0));
        due(2, x.nodeAt(2));
        due(1, x.nodeAt(3));
        due(true, x.move(1, -2, 0));
        due(1, x.nodeAt(0));
        due(-2, x.node(1, 4));
        due(5, x.undo());
        due(2, x.nodeAt(2));
    }

    private static void moveLimits() {
        FormDesigner x = form("form 14 14 1;group a{group b{yesno x width 1;group c{}}}group d{group e{}}"
                + "group f if y{}yesno y width 1;");
        due(false, x.move(24, 0, 0));
        due(false, x.move(24, 1, 0));
        due(false, x.move(24, 2, 0));
        due(true, x.move(27, 1, 2));
        due("form 14 14 1;group a{group b{yesno x width 1;group c{}group d{group e{}}}}group f if y{}yesno y width 1;", setup(x));
        due(false, x.move(29, 4, 0));
        due(true, x.move(29, 3, 0));
        due(false, x.move(1, 5, 0));
        due(true, x.move(0, 5, 0));
        due(2, x.dependsOn(0));
        due(true, x.move(1, 2, 0));
        due(3, x.node(1, 6));
        due(false, x.move(25, 4, 0));
        x = form("form 14 14 1;group a{group b{group c{}}}group d{group e{}}");
        due(false, x.move(27, 2, 0));
        due(false, x.move(24, 4, 0));
        due(true, x.move(24, 3, 0));
        due(3, x.node(26, 6));
        x = form("form 14 14 1;group a{}group b{group c{group d{}}}");
        due(true, x.move(24, 3, 0));
        due(3, x.node(24, 6));
        x.undo();
        due(true, x.move(25, 0, 0));
        due(3, x.node(27, 6));
        x = form("form 14 14 1;group a{}group b{group c{group d{group e{}}}}");
        due(false, x.move(24, 4, 0));
        due(true, x.move(24, 3, 1));
        x = form("form 14 14 1;yesno a width 1;group g if b{yesno c width 1;}yesno b width 1 if a;");
        due(false, x.move(0, 0, 0));
        due(false, x.move(2, 0, 1));
        due(true, x.move(1, -2, 0));
        due(0, x.dependsOn(1));
        due(0, x.undo());
    }

    private static void setKind() {
        start(11);
        FormDesigner x = form(SAMPLE);
        due(2, x.setKind(0, 1, 0, 3));
        due(1, x.node(0, 0));
        due(0, x.node(0, 1));
        due(2, x.node(0, 2));
        due(-2, x.setKind(0, 1, 0, 3));
        due(1, x.setKind(0, 1, 0, 9));
        due(1, x.setKind(0, 0, 0, 8));
        due(0, x.setKind(0, 0, 9999, 9999));
        due(0, x.setKind(0, 0, 0, 0));
        due(0, x.setKind(0, 2, 0, 1));
        due(-2, x.setKind(0, 2, 0, 1));
        due(6, x.node(0, 3));
        due(2, x.setKind(0, 1, 0, 2));
        due(1, x.setKind(0, 2, 0, 1));
        int[][] wrong = {{0, 5, 4}, {0, -1, 4}, {0, 0, 10000}, {0, MIN, MAX}, {1, 0, 1}, {1, 0, 10}, {1, 1, 5},
            {1, -1, 5}, {2, 0, 0}, {2, 0, 2}, {2, 1, 1}, {3, 0, 0}, {-1, 0, 1}, {MAX, 0, 1}, {-2, 0, 1}};
        for (int[] w : wrong) {
            due(-1, x.setKind(0, w[0], w[1], w[2]));
        }
        for (int field : new int[] {5, 24, -1, -2, 32, MAX}) {
            due(-1, x.setKind(field, 2, 0, 1));
        }
        due(2, x.node(0, 0));
        due(7, x.undo());
        due(1, x.node(0, 0));
        due(1, x.node(0, 2));
    }

    private static void publish() {
        start(12);
        FormDesigner x = form(SAMPLE);
        for (int i = 0; i < 8; i++) {
            due(i, x.publish());
            x.rename(0, letters("p" + (char) ('a' + i)));
        }
        due(-2, x.publish());
        due(8, x.value(5));
        due("pet___", text(x, true, 0).substring(0, 6));
        due("pa____", text(x, true, 1).substring(0, 6));
        due("pg____", text(x, true, 7).substring(0, 6));
        x.undo();
        due(8, x.undo());
        due(7, x.value(5));
        x.remove(2);
        due(7, x.publish());
        due(false, x.exists(7, 2));
        due(true, x.exists(6, 2));
    }

    // ---- sheets

    private static void begin() {
        start(13);
        FormDesigner x = form(SAMPLE);
        due(-2, x.begin());
        due(-1, x.undo());
        x.publish();
        due(0, x.begin());
        x.publish();
        for (int i = 1; i < 10; i++) {
            due(i, x.begin());
        }
        due(-2, x.begin());
        due(10, x.value(6));
        due(0, x.revisionOf(0));
        due(1, x.revisionOf(9));
        x.answer(9, 0, 1);
        x.undo();
        due(8, x.undo());
        due(9, x.begin());
        due(0, x.answers(9));
    }

    private static void answer() {
        start(14);
        FormDesigner x = sheet(SAMPLE);
        due(-2, x.answer(0, 1, 0));
        due(3, x.answer(0, 0, 1));
        due(-2, x.answer(0, 0, 1));
        due(0, x.answer(0, 1, 0));
        due(1, x.answer(0, 1, 1));
        due(0, x.answer(0, 1, 2));
        due(0, x.answer(0, 2, 40));
        due(3, x.answers(0));
        due(4, x.answer(0, 0, 0));
        due(3, x.answers(0));
        due(-2, x.answer(0, 1, 1));
        due(-2, x.answer(0, 1, -2));
        due(4, x.answer(0, 0, 1));
        due(40, x.inForce(0, 0, 2));
        due(4, x.answer(0, 0, -2));
        due(-2, x.answer(0, 0, -2));
        due(2, x.answers(0));
        due(0, x.answer(0, 3, 5));
        due(0, x.answer(0, 3, 9));
        due(-1, x.answer(0, 3, 4));
        due(-1, x.answer(0, 3, 10));
        due(-1, x.answer(0, 3, -1));
        due(-1, x.answer(0, 0, 2));
        due(-1, x.answer(0, 1, 3));
        due(-1, x.answer(0, 1, -3));
        due(-1, x.answer(0, 2, 41));
        due(-1, x.answer(0, 5, 0));
        due(-1, x.answer(0, 24, 0));
        due(-1, x.answer(0, -1, -2));
        due(-1, x.answer(0, -2, -2));
        due(-1, x.answer(1, 0, 0));
        due(-1, x.answer(-1, 0, 0));
        due(-1, x.answer(-2, 0, 0));
        due(-1, x.answer(MAX, MAX, MAX));
        due(0, x.answer(0, 3, -2));
        // The kind is that of the sheet's revision, not of the draft.
        x.setKind(3, 0, 0, 4);
        x.remove(4);
        x.publish();
        due(-1, x.answer(0, 3, 4));
        due(0, x.answer(0, 3, 6));
        due(0, x.answer(0, 4, 1));
    }

    private static void advance() {
        start(15);
        FormDesigner x = sheet(SAMPLE);
        due(-2, x.advance(0));
        due(-1, x.advance(1));
        due(-1, x.advance(-1));
        due(-1, x.advance(-2));
        due(-1, x.advance(MIN));
        x.answer(0, 0, 1);
        x.answer(0, 1, 2);
        x.answer(0, 2, 9);
        x.answer(0, 3, 9);
        x.setKind(3, 0, 0, 8);
        x.remove(24);
        x.publish();
        x.publish();
        due(4, x.answers(0));
        due(2, x.advance(0));
        due(2, x.revisionOf(0));
        due(2, x.answers(0));
        due(-2, x.inForce(0, 2, 3));
        due(-2, x.inForce(0, 1, 3));
        due(9, x.inForce(0, 0, 3));
        due(-2, x.inForce(0, 0, 2));
        due(-2, x.advance(0));
        x.undo();
        due(0, x.revisionOf(0));
        due(4, x.answers(0));
        due(9, x.inForce(0, 0, 2));
        x.begin();
        due(2, x.revisionOf(1));
        due(-2, x.advance(1));
        x = sheet("form 14 14 1;yesno a width 1;yesno b width 1;");
        x.answer(0, 0, 1);
        x.remove(0);
        x.publish();
        due(1, x.advance(0));
        due(0, x.answers(0));
    }

    private static void undo() {
        start(16);
        FormDesigner x = form(SAMPLE);
        due(-1, x.undo());
        for (int i = 0; i < 12; i++) {
            due(true, x.rename(0, letters("" + (char) ('a' + i))));
        }
        due(9, x.undo());
        due("k", name(x, 0));
        due(true, x.rename(0, letters("y")));
        due(9, x.undo());
        due(true, x.rename(0, letters("y")));
        due(true, x.rename(0, letters("z")));
        for (int i = 9; i >= 0; i--) {
            due(i, x.undo());
        }
        due("c", name(x, 0));
        due(-1, x.undo());
        due(-1, x.undo());
        due(true, x.rename(0, letters("q")));
        put(x, "yesno");
        due(0, x.undo());
        due(5, x.tapeLength());
        due(-1, x.insert(-2));
        due(5, x.errorPosition());
        x.publish();
        x.undo();
        due(5, x.errorPosition());
        due(0, x.publish());
        due(-1, load(x, "x"));
        due(0, x.undo());
        x.publish();
        due(5, load(x, SAMPLE));
        due(-1, x.undo());
        x.publish();
        x.begin();
        x.answer(0, 0, 1);
        x.answer(0, 0, 0);
        x.undo();
        due(1, x.inForce(0, 0, 0));
        x.undo();
        due(-2, x.inForce(0, 0, 0));
    }

    /** Each operation, undone, leaves all as it was; what fails is no operation. */
    private static void undoEach() {
        FormDesigner x = sheet(SAMPLE);
        x.answer(0, 0, 1);
        x.publish();
        String before = setup(x) + text(x, false, 0) + x.value(5) + x.value(6) + x.value(7) + x.value(8);
        for (int i = 0; i < 10; i++) {
            int done = x.undo();
            x.publish();
            due(done + 1, undoable(x));
            change(x, i);
            due(done + 1, x.undo());
            due(before, setup(x) + text(x, false, 0) + x.value(5) + x.value(6) + x.value(7) + x.value(8));
            due(1, x.answers(0));
            due(0, x.revisionOf(0));
        }
        int left = x.undo();
        x.insert(-2);
        x.setCondition(9);
        x.rename(0, letters("age"));
        x.remove(0);
        x.move(0, -2, 0);
        x.setKind(0, 2, 0, 1);
        x.answer(0, 0, 1);
        x.advance(0);
        due(left - 1, x.undo());
    }

    private static int undoable(FormDesigner x) {
        x.begin();
        return x.undo();
    }

    private static void change(FormDesigner x, int i) {
        switch (i) {
            case 0: due(1, insert(x, 0, "group g{yesno f width 1;}")); break;
            case 1: due(1, condition(x, 3, "pet")); break;
            case 2: due(true, x.rename(3, letters("r"))); break;
            case 3: due(2, x.remove(24)); break;
            case 4: due(true, x.move(24, -2, 0)); break;
            case 5: due(2, x.setKind(0, 1, 0, 5)); break;
            case 6: due(2, x.publish()); break;
            case 7: due(1, x.begin()); break;
            case 8: due(0, x.answer(0, 1, 0)); break;
            default: due(0, x.advance(0));
        }
    }

    // ---- nodes

    private static void value() {
        start(17);
        FormDesigner x = form(SAMPLE);
        int[] want = {40, 30, 5, 5, 1, 0, 0, 5, 1, 3};
        for (int what = 0; what < 10; what++) {
            due(want[what], x.value(what));
        }
        condition(x, 0, "rest");
        due(4, x.value(9));
        x.undo();
        due(-1, x.value(10));
        due(-1, x.value(-1));
        due(-1, x.value(-2));
        due(-1, x.value(MAX));
        due(-1, x.value(MIN));
        x.remove(24);
        x.publish();
        x.begin();
        x.begin();
        int[] then = {40, 30, 5, 3, 0, 1, 2, 5, 1, 1};
        for (int what = 0; what < 10; what++) {
            due(then[what], x.value(what));
        }
    }

    private static void node() {
        start(18);
        FormDesigner x = form(SAMPLE);
        int[][] want = {{2, 0, 1, 6, -2, 0, 0, 0, 0}, {1, 0, 2, 8, 0, 0, 1, 0, 0}, {0, 0, 40, 4, 0, 1, 1, 2, 0},
            {0, 5, 9, 4, -2, 2, 0, 0, 0}, {2, 0, 1, 10, -2, 3, 0, 1, 0}, {3, 0, 0, 0, -2, 1, 0, 1, 2}};
        for (int i = 0; i < 6; i++) {
            for (int what = 0; what < 9; what++) {
                due(want[i][what], x.node(i == 5 ? 24 : i, what));
            }
            due(-1, x.node(i == 5 ? 24 : i, 9));
            due(-1, x.node(i == 5 ? 24 : i, -1));
        }
        for (int node : new int[] {5, 23, 25, 31, 32, -1, -2, MAX, MIN}) {
            due(-1, x.node(node, 0));
        }
        due(-1, x.node(0, MAX));
        x = form("form 14 14 1;group a{group b{group c{group d{yesno x width 1;}yesno y width 2;}}yesno z width 3;}");
        due(4, x.node(0, 6));
        due(3, x.node(27, 6));
        due(3, x.node(0, 4));
        due(2, x.node(24, 8));
        due(1, x.node(25, 8));
        due(2, x.node(26, 8));
        due(1, x.node(2, 5));
    }

    private static void letter() {
        start(19);
        FormDesigner x = form("form 14 14 1;yesno abcdefgh width 1;group z{}");
        for (int i = 0; i < 8; i++) {
            due(97 + i, x.letter(0, i));
        }
        due(-2, x.letter(0, 8));
        due(-2, x.letter(0, MAX));
        due(-1, x.letter(0, -1));
        due(-1, x.letter(0, MIN));
        due(122, x.letter(24, 0));
        due(-2, x.letter(24, 1));
        due(-1, x.letter(25, 0));
        due(-1, x.letter(1, 9));
        due(-1, x.letter(-1, 0));
        due(-1, x.letter(-2, 0));
    }

    private static void named() {
        start(20);
        FormDesigner x = form("form 14 14 1;yesno abcdefgh width 1;group z{number 0 1 abcdef width 1;}yesno b width 1;");
        due(24, x.named(letters("z")));
        due(1, x.named(letters("abcdef")));
        due(2, x.named(letters("b")));
        due(-2, x.named(letters("a")));
        due(-2, x.named(letters("form")));
        due(-1, x.named(0));
        due(-1, x.named(-1));
        due(-1, x.named(MIN));
        due(-1, x.named(letters("b") | 1));
        due(-1, x.named(letters("b") | 1 << 30));
        due(-1, x.named(27 << 25));
        x.remove(24);
        due(-2, x.named(letters("z")));
        due(-2, x.named(letters("abcdef")));
    }

    private static void nodeAt() {
        start(21);
        FormDesigner x = form(SAMPLE);
        int[] want = {0, 24, 1, 2, 3, 4, -2};
        for (int i = 0; i < 7; i++) {
            due(want[i], x.nodeAt(i));
        }
        due(-2, x.nodeAt(MAX));
        due(-1, x.nodeAt(-1));
        due(-1, x.nodeAt(MIN));
        insert(x, 0, "group g{yesno n width 1;}");
        due(25, x.nodeAt(4));
        due(5, x.nodeAt(5));
        due(3, x.nodeAt(6));
        FormDesigner full = form("form 14 14 1;" + fields(0, 24)
                + "group ga{}group gb{}group gc{}group gd{}group ge{}group gf{}group gg{}group gh{}");
        due(31, full.nodeAt(31));
        due(-2, full.nodeAt(32));
    }

    private static void dependsOn() {
        start(22);
        FormDesigner x = form(SAMPLE);
        int[] want = {0, 1, 3, 0, 1};
        for (int field = 0; field < 5; field++) {
            due(want[field], x.dependsOn(field));
        }
        for (int field : new int[] {5, 24, 25, -1, -2, 32, MAX, MIN}) {
            due(-1, x.dependsOn(field));
        }
        x = form("form 14 14 1;" + fields(0, 23) + "group ga if a{group gb if b{group gc{group gd if not(w and a<3)"
                + "{yesno x width 1 if h;}}}}");
        due(1 << 22 | 1 | 2 | 1 << 7, x.dependsOn(23));
        x.move(23, 1, 0);
        due(1 | 2 | 1 << 7, x.dependsOn(23));
    }

    private static void dependents() {
        start(23);
        FormDesigner x = form(SAMPLE);
        int[] want = {22, 4, 0, 0, 0};
        for (int field = 0; field < 5; field++) {
            due(want[field], x.dependents(field));
        }
        for (int field : new int[] {5, 24, -1, -2, 32, MAX, MIN}) {
            due(-1, x.dependents(field));
        }
        condition(x, 0, "rest");
        due(23, x.dependents(3));
        StringBuilder chain = new StringBuilder("form 14 14 1;yesno x width 1;");
        for (int i = 1; i < 24; i++) {
            chain.append("yesno ").append((char) ('a' + i - 1)).append(" width 1 if ");
            chain.append(i == 1 ? 'x' : (char) ('a' + i - 2)).append(';');
        }
        x = form(chain.toString());
        due(0xFFFFFE, x.dependents(0));
        due(1 << 23, x.dependents(22));
        due(0xFFFFFF ^ 0xFFF, x.dependents(11));
    }

    private static void inOrder() {
        start(24);
        FormDesigner x = form("form 14 14 1;yesno a width 1 if d;group g if c{yesno b width 1;}"
                + "yesno c width 1;yesno d width 1 if c;yesno e width 1;");
        int[] want = {2, 1, 3, 0, 4, -2};
        for (int i = 0; i < 6; i++) {
            due(want[i], x.inOrder(i));
        }
        due(-2, x.inOrder(24));
        due(-2, x.inOrder(MAX));
        due(-1, x.inOrder(-1));
        due(-1, x.inOrder(MIN));
        x.remove(4);
        due(-2, x.inOrder(4));
        x = form("form 14 14 1;" + fields(0, 24));
        due(23, x.inOrder(23));
        due(-2, x.inOrder(24));
        due(-2, x.inOrder(25));
    }

    private static void wouldRefuse() {
        start(25);
        FormDesigner x = form(SAMPLE);
        due(true, x.wouldRefuse(0, 0));
        due(true, x.wouldRefuse(0, 2));
        due(true, x.wouldRefuse(0, 4));
        due(false, x.wouldRefuse(0, 3));
        due(false, x.wouldRefuse(2, 0));
        due(false, x.wouldRefuse(2, 1));
        due(true, x.wouldRefuse(1, 2));
        due(true, x.wouldRefuse(24, 1));
        due(true, x.wouldRefuse(24, 2));
        due(false, x.wouldRefuse(24, 4));
        due(false, x.wouldRefuse(3, 24));
        due(false, x.wouldRefuse(0, 5));
        due(false, x.wouldRefuse(5, 5));
        due(false, x.wouldRefuse(25, 0));
        due(false, x.wouldRefuse(-1, 0));
        due(false, x.wouldRefuse(0, -1));
        due(false, x.wouldRefuse(MAX, MIN));
        x = form("form 14 14 1;group g{group h{}}yesno a width 1;yesno b width 1 if a;");
        due(false, x.wouldRefuse(24, 0));
        x.move(0, 1, 0);
        due(true, x.wouldRefuse(24, 0));
        due(true, x.wouldRefuse(24, 1));
        due(true, x.wouldRefuse(25, 1));
    }

    // ---- revisions and sheets

    private static void exists() {
        start(26);
        FormDesigner x = form(SAMPLE);
        due(false, x.exists(0, 0));
        x.publish();
        x.remove(24);
        insert(x, -2, "yesno n width 1;group g{}");
        x.publish();
        due(true, x.exists(0, 2));
        due(true, x.exists(0, 24));
        due(false, x.exists(0, 5));
        due(false, x.exists(0, 25));
        due(false, x.exists(1, 2));
        due(false, x.exists(1, 24));
        due(true, x.exists(1, 5));
        due(true, x.exists(1, 25));
        due(false, x.exists(2, 0));
        due(false, x.exists(-1, 0));
        due(false, x.exists(-2, 0));
        due(false, x.exists(0, -1));
        due(false, x.exists(0, 32));
        due(false, x.exists(MAX, MIN));
        x.undo();
        due(false, x.exists(1, 0));
    }

    private static void revisionOf() {
        start(27);
        FormDesigner x = sheet(SAMPLE);
        x.publish();
        x.begin();
        due(0, x.revisionOf(0));
        due(1, x.revisionOf(1));
        due(-1, x.revisionOf(2));
        due(-1, x.revisionOf(-1));
        due(-1, x.revisionOf(-2));
        due(-1, x.revisionOf(MAX));
        x.advance(0);
        due(1, x.revisionOf(0));
    }

    private static void answers() {
        start(28);
        FormDesigner x = sheet(SAMPLE);
        due(0, x.answers(0));
        x.answer(0, 0, 1);
        x.answer(0, 1, 0);
        due(2, x.answers(0));
        x.answer(0, 0, 0);
        due(2, x.answers(0));
        x.answer(0, 0, -2);
        due(1, x.answers(0));
        due(-1, x.answers(1));
        due(-1, x.answers(-1));
        due(-1, x.answers(-2));
        due(-1, x.answers(MIN));
    }

    private static void isShown() {
        start(29);
        FormDesigner x = sheet(SAMPLE);
        due(true, x.isShown(0, 0, 0));
        due(false, x.isShown(0, 0, 1));
        due(false, x.isShown(0, 0, 2));
        due(false, x.isShown(0, 0, 24));
        due(true, x.isShown(0, 0, 4));
        x.answer(0, 0, 1);
        due(true, x.isShown(0, 0, 24));
        due(true, x.isShown(0, 0, 1));
        due(false, x.isShown(0, 0, 2));
        due(false, x.isShown(0, 0, 4));
        due(false, x.isShown(0, 0, 5));
        due(false, x.isShown(0, 0, 25));
        due(false, x.isShown(0, 1, 0));
        due(false, x.isShown(1, 0, 0));
        due(false, x.isShown(-1, 0, 0));
        due(false, x.isShown(0, -1, 0));
        due(false, x.isShown(0, 0, -1));
        due(false, x.isShown(0, 0, 32));
        due(false, x.isShown(MAX, MAX, MAX));
        condition(x, 24, "not pet");
        insert(x, -2, "yesno later width 1 if pet;group g if later{}");
        x.publish();
        due(false, x.isShown(0, 1, 24));
        due(false, x.isShown(0, 1, 1));
        due(true, x.isShown(0, 1, 5));
        due(false, x.isShown(0, 1, 25));
        due(true, x.isShown(0, 0, 24));
        x.begin();
        due(true, x.isShown(1, 1, 24));
        due(false, x.isShown(1, 0, 24));
        x.answer(1, 0, 1);
        x.answer(1, 5, 1);
        due(true, x.isShown(1, 1, 25));
    }

    /** Which conditions hold (section 2): the tests, the operators and how they bind. */
    private static void conditions() {
        String form = "form 14 14 1;number 0 9 a width 1;number 0 9 b width 1;number 0 9 c width 1;yesno t width 1 if ";
        String[] texts = {"a", "not a", "a = 3", "a < 3", "a > 3", "not a = 3", "a or b and c", "(a or b) and c",
            "not a or b", "not (a or b)", "not (a and b)", "a and b or c", "a and (b or c)", "not not a", "a < 1",
            "not not (a and not b) or c = 2 and (not c > 1 or b < 1)"};
        for (String text : texts) {
            FormDesigner x = sheet(form + text + ";");
            for (int a = -1; a <= 4; a++) {
                for (int b = -1; b <= 1; b++) {
                    for (int c = -1; c <= 2; c++) {
                        x.answer(0, 0, a < 0 ? -2 : a);
                        x.answer(0, 1, b < 0 ? -2 : b);
                        x.answer(0, 2, c < 0 ? -2 : c);
                        due(holds(text, a, b, c), x.isShown(0, 0, 3));
                    }
                }
            }
        }
        // A field that is not shown is not in force, so a test of it fails, whatever was answered.
        FormDesigner x = sheet("form 14 14 1;yesno a width 1;yesno b width 1 if a;yesno c width 1 if b;yesno d width 1 if not c;");
        x.answer(0, 0, 1);
        x.answer(0, 1, 1);
        x.answer(0, 2, 1);
        due(false, x.isShown(0, 0, 3));
        due(3, x.answer(0, 0, 0));
        due(true, x.isShown(0, 0, 3));
        due(false, x.isShown(0, 0, 2));
    }

    private static boolean holds(String text, int a, int b, int c) {
        boolean p = a > 0;
        boolean q = b > 0;
        boolean r = c > 0;
        switch (text) {
            case "a": case "not not a": return p;
            case "not a": return !p;
            case "a = 3": return a == 3;
            case "a < 3": return a >= 0 && a < 3;
            case "a > 3": return a > 3;
            case "not a = 3": return a != 3;
            case "a or b and c": return p || q && r;
            case "(a or b) and c": return (p || q) && r;
            case "not a or b": return !p || q;
            case "not (a or b)": return !(p || q);
            case "not (a and b)": return !(p && q);
            case "a and b or c": return p && q || r;
            case "a and (b or c)": return p && (q || r);
            case "a < 1": return a == 0;
            default: return p && !q || c == 2 && (c <= 1 || b == 0);
        }
    }

    private static void inForce() {
        start(30);
        FormDesigner x = sheet(SAMPLE);
        due(-2, x.inForce(0, 0, 0));
        x.answer(0, 0, 1);
        x.answer(0, 1, 2);
        x.answer(0, 3, 9);
        due(1, x.inForce(0, 0, 0));
        due(2, x.inForce(0, 0, 1));
        due(-2, x.inForce(0, 0, 2));
        due(9, x.inForce(0, 0, 3));
        x.begin();
        due(-2, x.inForce(1, 0, 0));
        x.undo();
        x.answer(0, 0, 0);
        due(0, x.inForce(0, 0, 0));
        due(-2, x.inForce(0, 0, 1));
        due(-1, x.inForce(0, 0, 5));
        due(-1, x.inForce(0, 0, 24));
        due(-1, x.inForce(0, 0, -1));
        due(-1, x.inForce(0, 0, -2));
        due(-1, x.inForce(0, 1, 0));
        due(-1, x.inForce(0, -1, 0));
        due(-1, x.inForce(1, 0, 0));
        due(-1, x.inForce(-1, 0, 0));
        due(-1, x.inForce(MAX, MIN, MAX));
        condition(x, 24, "");
        x.rename(1, letters("sort"));
        x.setKind(3, 0, 5, 8);
        x.publish();
        due(2, x.inForce(0, 1, 1));
        due(-2, x.inForce(0, 1, 3));
        due(9, x.inForce(0, 0, 3));
        x.begin();
        x.answer(1, 3, 8);
        due(8, x.inForce(1, 0, 3));
        due(-2, x.inForce(1, 0, 0));
    }

    private static void open() {
        start(31);
        FormDesigner x = sheet(SAMPLE);
        due(25, x.open(0));
        x.answer(0, 0, 1);
        due(10, x.open(0));
        x.answer(0, 1, 1);
        due(12, x.open(0));
        x.answer(0, 3, 5);
        due(4, x.open(0));
        x.setKind(3, 0, 6, 7);
        x.publish();
        due(4, x.open(0));
        x.advance(0);
        due(12, x.open(0));
        due(-1, x.open(1));
        due(-1, x.open(-1));
        due(-1, x.open(-2));
        due(-1, x.open(MAX));
        x = sheet("form 14 14 1;" + fields(0, 24));
        due(0xFFFFFF, x.open(0));
        due(0, x.answer(0, 23, 1));
        due(0x7FFFFF, x.open(0));
    }

    private static void completeness() {
        start(32);
        FormDesigner x = sheet(SAMPLE);
        due(0f, x.completeness(0));
        x.answer(0, 0, 0);
        due(1f / 3f, x.completeness(0));
        x.answer(0, 3, 5);
        due(2f / 3f, x.completeness(0));
        x.answer(0, 0, 1);
        due(2f / 3f, x.completeness(0));
        x.answer(0, 1, 0);
        due(1f, x.completeness(0));
        due(-1f, x.completeness(1));
        due(-1f, x.completeness(-1));
        due(-1f, x.completeness(-2));
        due(-1f, x.completeness(MIN));
        x = sheet("form 14 14 1;group g{}");
        due(1f, x.completeness(0));
        x = sheet("form 14 14 1;yesno a width 1;yesno b width 1 if a;");
        x.answer(0, 0, 1);
        x.answer(0, 1, 1);
        condition(x, 1, "");
        condition(x, 0, "b");
        x.publish();
        x.answer(0, 0, 0);
        x.advance(0);
        due(1f, x.completeness(0));
    }

    private static void average() {
        start(33);
        FormDesigner x = sheet(SAMPLE);
        due(-1f, x.average(0));
        x.begin();
        x.begin();
        x.answer(0, 3, 5);
        due(5f, x.average(3));
        x.answer(1, 3, 6);
        x.answer(2, 3, 9);
        due(20f / 3f, x.average(3));
        x.setKind(3, 0, 5, 8);
        x.publish();
        due(20f / 3f, x.average(3));
        x.advance(2);
        due(5.5f, x.average(3));
        x.answer(0, 0, 0);
        due(0f, x.average(0));
        due(-1f, x.average(1));
        due(-1f, x.average(5));
        due(-1f, x.average(24));
        due(-1f, x.average(-1));
        due(-1f, x.average(-2));
        due(-1f, x.average(MAX));
    }

    private static void tally() {
        start(34);
        FormDesigner x = sheet(SAMPLE);
        x.begin();
        x.begin();
        x.answer(0, 3, 5);
        x.answer(1, 3, 5);
        x.answer(2, 3, 9);
        due(2, x.tally(3, 5));
        due(1, x.tally(3, 9));
        due(0, x.tally(3, 6));
        x.answer(2, 0, 0);
        due(1, x.tally(0, 0));
        x.answer(2, 0, -2);
        due(0, x.tally(3, -2));
        due(0, x.tally(3, -1));
        due(0, x.tally(0, -2));
        due(0, x.tally(5, 0));
        due(0, x.tally(5, -2));
        due(0, x.tally(24, 0));
        due(0, x.tally(-1, -2));
        due(0, x.tally(-2, -2));
        due(0, x.tally(MAX, MIN));
        condition(x, 3, "not pet");
        x.publish();
        x.answer(0, 0, 1);
        due(2, x.tally(3, 5));
        x.advance(0);
        due(1, x.tally(3, 5));
        x.advance(1);
        due(1, x.tally(3, 5));
    }

    // ---- layouts

    private static void rows() {
        start(35);
        FormDesigner x = sheet(SAMPLE);
        due(1, x.rows(false, 0));
        due(6, x.rows(true, 0));
        x.answer(0, 0, 1);
        due(4, x.rows(false, 0));
        for (boolean print : new boolean[] {true, false}) {
            due(-1, x.rows(print, 1));
            due(-1, x.rows(print, -1));
            due(-1, x.rows(print, -2));
            due(-1, x.rows(print, MAX));
        }
        x = sheet("form 14 14 5;yesno a width 1 if b;yesno b width 1 if c;yesno c width 1;");
        due(2, x.rows(true, 0));
        due(1, x.rows(false, 0));
        due(0, x.place(true, 0, 0, false));
        due(-2, x.place(false, 0, 0, false));
        x = sheet("form 14 14 5;yesno b width 1;group g if not b{group h if b{yesno a width 1;}}group i{}");
        due(3, x.rows(false, 0));
        x.answer(0, 0, 1);
        due(2, x.rows(false, 0));
        x = sheet("form 14 14 5;yesno a width 1;group g{}");
        x.remove(0);
        x.remove(24);
        x.publish();
        due(2, x.rows(true, 0));
        due(0, x.rows(true, 1));
        x = sheet("form 14 14 5;group g{group h{}}");
        due(2, x.rows(false, 0));
        due(2, x.rows(true, 0));
        x = sheet("form 14 14 5;yesno a width 1;yesno b width 10;yesno c width 1;yesno d width 1;");
        due(2, x.rows(false, 0));
        x = sheet("form 14 14 5;");
        due(0, x.rows(false, 0));
        due(0, x.rows(true, 0));
    }

    private static void place() {
        start(36);
        // Twelve and one are thirteen columns; a field of one more does not fit behind a gap.
        FormDesigner x = sheet("form 14 15 1;yesno a width 10;yesno b width 3;yesno c width 3;group g{yesno d width 10;"
                + "yesno e width 2 if a;}yesno f width 1 if not a;yesno h width 1;");
        int[][] screen = {{0, 0}, {0, 11}, {1, 0}, {3, 1}, {-2, -2}, {4, 0}, {4, 2}};
        int[][] print = {{0, 0}, {0, 11}, {1, 0}, {3, 1}, {4, 1}, {5, 0}, {5, 2}};
        for (int field = 0; field < 7; field++) {
            due(screen[field][0], x.place(false, 0, field, false));
            due(screen[field][1], x.place(false, 0, field, true));
            due(print[field][0], x.place(true, 0, field, false));
            due(print[field][1], x.place(true, 0, field, true));
        }
        due(2, x.place(false, 0, 24, false));
        due(0, x.place(false, 0, 24, true));
        for (boolean way : new boolean[] {true, false}) {
            due(-1, x.place(way, 0, 7, true));
            due(-1, x.place(way, 0, 25, false));
            due(-1, x.place(way, 0, -1, true));
            due(-1, x.place(way, 0, -2, true));
            due(-1, x.place(way, 0, 32, true));
            due(-1, x.place(way, 1, 0, true));
            due(-1, x.place(way, -1, 0, false));
            due(-1, x.place(way, MAX, MIN, false));
        }
        x.remove(25);
        insert(x, -2, "yesno i width 1;");
        x.publish();
        due(-1, x.place(false, 0, 7, true));
        due(-1, x.place(true, 0, 7, true));
        due(4, x.place(true, 1, 7, true));
        // The columns: exactly full is not too much.
        x = sheet("form 14 14 1;yesno a width 10;yesno b width 3;yesno c width 4;yesno d width 10;");
        due(11, x.place(false, 0, 1, true));
        due(0, x.place(false, 0, 1, false));
        due(1, x.place(false, 0, 2, false));
        due(2, x.place(false, 0, 3, false));
        // The last row of a page is left to no group, in the print alone.
        x = sheet("form 14 14 2;yesno a width 1;group g{yesno b width 1;}group h{group i{}}");
        due(1, x.place(false, 0, 24, false));
        due(2, x.place(true, 0, 24, false));
        due(3, x.place(true, 0, 1, false));
        due(4, x.place(true, 0, 25, false));
        due(6, x.place(true, 0, 26, false));
        due(1, x.place(true, 0, 26, true));
        due(4, x.place(false, 0, 26, false));
        x = sheet("form 14 14 1;group g{}group h{}");
        due(0, x.place(true, 0, 24, false));
        due(1, x.place(true, 0, 25, false));
        // After the groups that end together the fields go on at the column of the outer list.
        x = sheet("form 20 20 9;group g{group h{yesno a width 1;}}yesno b width 1;yesno c width 1;group i{}yesno d width 1;");
        due(3, x.place(false, 0, 1, false));
        due(0, x.place(false, 0, 1, true));
        due(2, x.place(false, 0, 2, true));
        due(5, x.place(true, 0, 3, false));
        due(0, x.place(true, 0, 3, true));
        x = sheet("form 20 20 9;group g{group h{}yesno a width 1;yesno b width 1 if a;}");
        due(2, x.place(true, 0, 0, false));
        due(1, x.place(true, 0, 0, true));
        due(3, x.place(true, 0, 1, false));
        due(1, x.place(true, 0, 1, true));
    }

    private static void pages() {
        start(37);
        FormDesigner x = form(SAMPLE);
        due(-1, x.pages(0));
        x.publish();
        due(2, x.pages(0));
        due(-1, x.pages(1));
        due(-1, x.pages(-1));
        due(-1, x.pages(-2));
        due(-1, x.pages(MAX));
        x = sheet("form 14 14 3;group a{}group b{}");
        due(1, x.pages(0));
        x = sheet("form 14 14 3;group a{}group b{}yesno c width 1;");
        due(1, x.pages(0));
        x = sheet("form 14 14 3;group a{}group b{}group c{}");
        due(2, x.pages(0));
        x = sheet("form 14 14 1;group a{}group b{}group c{}");
        due(3, x.pages(0));
        x = sheet("form 14 14 60;");
        due(0, x.pages(0));
    }

    private static void textLength() {
        start(38);
        FormDesigner x = sheet(SAMPLE);
        x.answer(0, 0, 1);
        x.answer(0, 1, 2);
        x.answer(0, 2, 40);
        due("pet=1_\n#animal\n kind=2__ age=\nrest\n", text(x, false, 0));
        due("pet___\n#animal\n kind____\n age_\nrest\nlast______\n", text(x, true, 0));
        due(35, x.textLength(false, 0));
        x.answer(0, 0, 0);
        x.answer(0, 3, 7);
        due("pet=0_ rest last______\n", text(x, false, 0));
        for (boolean print : new boolean[] {true, false}) {
            due(-1, x.textLength(print, 1));
            due(-1, x.textLength(print, -1));
            due(-1, x.textLength(print, -2));
            due(-1, x.textLength(print, MIN));
        }
        x = sheet("form 30 14 2;number 0 9999 abcdefgh width 10;number 0 9999 b width 6;number 0 9999 c width 4;"
                + "group abcdefgz{group z{yesno d width 5;}}");
        due("abcdefgh__ b_____ c___\n#abcdefgz\n #z\n  d____\n", text(x, false, 0));
        due("abcdefgh__\nb_____ c___\n#abcdefgz\n\n #z\n  d____\n", text(x, true, 0));
        x.answer(0, 0, 1234);
        x.answer(0, 1, 9999);
        x.answer(0, 2, 100);
        x.answer(0, 3, 0);
        due("abcdefgh=1 b=9999 c=10\n#abcdefgz\n #z\n  d=0__\n", text(x, false, 0));
        due("abcdefgh__\nb_____ c___\n#abcdefgz\n\n #z\n  d____\n", text(x, true, 0));
        x.answer(0, 1, 1000);
        due("b=1000", text(x, false, 0).substring(11, 17));
        x.answer(0, 1, 10);
        x.answer(0, 2, 9);
        due("abcdefgh=1 b=10__ c=9_\n", text(x, false, 0).substring(0, 23));
        x = sheet("form 30 14 2;");
        due(0, x.textLength(true, 0));
        due(0, x.textLength(false, 0));
    }

    private static void textByte() {
        start(39);
        FormDesigner x = sheet(SAMPLE);
        due(112, x.textByte(false, 0, 0));
        due(95, x.textByte(false, 0, 5));
        due(32, x.textByte(false, 0, 6));
        due(10, x.textByte(true, 0, 6));
        due(35, x.textByte(true, 0, 7));
        int length = x.textLength(true, 0);
        due(10, x.textByte(true, 0, length - 1));
        due(-2, x.textByte(true, 0, length));
        due(-2, x.textByte(true, 0, MAX));
        due(-2, x.textByte(false, 0, x.textLength(false, 0)));
        for (boolean print : new boolean[] {true, false}) {
            due(-1, x.textByte(print, 0, -1));
            due(-1, x.textByte(print, 0, -2));
            due(-1, x.textByte(print, 0, MIN));
            due(-1, x.textByte(print, 1, 0));
            due(-1, x.textByte(print, -1, 0));
            due(-1, x.textByte(print, -2, MAX));
        }
        x = sheet("form 30 14 2;");
        due(-2, x.textByte(true, 0, 0));
        x = sheet("form 14 14 1;yesno a width 1;");
        x.rename(0, letters("b"));
        x.publish();
        due(97, x.textByte(false, 0, 0));
        due(98, x.textByte(true, 1, 0));
        x.advance(0);
        due(98, x.textByte(false, 0, 0));
    }

    private static void setupLength() {
        start(40);
        due(14, new FormDesigner().setupLength());
        FormDesigner x = form("form 040 40 0020;number 01 0010 a width 05;choice 2 b width 1;yesno c width 1;"
                + "yesno d width 1;group g{}");
        String head = "form 40 40 20;number 1 10 a width 5;choice 2 b width 1;yesno c width 1;yesno d width 1";
        due(head + ";group g{}", setup(x));
        String[][] texts = {{"((a))", "a"}, {"(a or b) or c", "a or b or c"}, {"a or (b or c)", "a or b or c"},
            {"(a and b) and c", "a and b and c"}, {"a and (b and c)", "a and b and c"},
            {"(a and b) or (c and a)", "a and b or c and a"}, {"(a or b) and (c)", "( a or b ) and c"},
            {"a and(b or c)", "a and ( b or c )"}, {"not(a)", "not a"}, {"not(not(a))", "not not a"},
            {"not(a or b)", "not ( a or b )"}, {"not(a and b)", "not ( a and b )"}, {"(not a) and b", "not a and b"},
            {"not((a and b) or c)", "not ( a and b or c )"}, {"a=007or b<0and not c>9999", "a = 7 or b < 0 and not c > 9999"},
            {"not(((a)))and((b)or((c)))", "not a and ( b or c )"}, {"((a and(b or c)))and a", "a and ( b or c ) and a"},
            {"(a and (b or (c and (a or b))))", "a and ( b or c and ( a or b ) )"}};
        for (String[] text : texts) {
            condition(x, 3, text[0]);
            due(head + " if " + text[1] + ";group g{}", setup(x));
            x.undo();
            condition(x, 24, text[0]);
            due(head + ";group g if " + text[1] + "{}", setup(x));
            x.undo();
        }
        due(head.length() + 10, x.setupLength());
        insert(x, 0, "group h{group i{yesno e width 1;}}yesno f width 1;");
        due(head + ";group g{group h{group i{yesno e width 1;}}yesno f width 1;}", setup(x));
        x.move(24, -2, 0);
        due("form 40 40 20;group g{group h{group i{yesno e width 1;}}yesno f width 1;}"
                + "number 1 10 a width 5;choice 2 b width 1;yesno c width 1;yesno d width 1;", setup(x));
    }

    private static void setupByte() {
        start(41);
        FormDesigner x = form(SAMPLE);
        for (int i = 0; i < SAMPLE.length(); i++) {
            due((int) SAMPLE.charAt(i), x.setupByte(i));
        }
        due(-2, x.setupByte(SAMPLE.length()));
        due(-2, x.setupByte(MAX));
        due(-1, x.setupByte(-1));
        due(-1, x.setupByte(-2));
        due(-1, x.setupByte(MIN));
    }

    private static void tapeLength() {
        start(42);
        FormDesigner x = new FormDesigner();
        due(0, x.tapeLength());
        x.append(0, 0, 0, 0, 0);
        due(20, x.tapeLength());
        x.truncate(3);
        due(17, x.tapeLength());
        x.setCondition(0);
        due(17, x.tapeLength());
        x.insert(0);
        due(17, x.tapeLength());
        x.insert(-2);
        due(0, x.tapeLength());
        x.append(0, 0, 0, 0, 0);
        x.load();
        due(0, x.tapeLength());
    }
}
