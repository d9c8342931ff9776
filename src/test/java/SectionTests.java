import java.io.IOException;
import java.lang.reflect.Method;
import java.lang.reflect.Modifier;
import java.util.Arrays;

/** Each sentence of the document ahead of its promises, quoted, with the cases that it names. */
public final class SectionTests extends Sentences {
    private static final String NUMBER = "form 14 14 1;number ";
    private static final String TWO = "form 14 14 1;yesno a width 1;yesno b width 1 if ";

    public static void main(String[] args) throws IOException {
        read(args[0]);
        section("What it is");
        designer();
        twoLayouts();
        calls();
        section("Section 1");
        lists();
        numbers();
        mostNumbers();
        depth();
        names();
        kinds();
        section("Section 2");
        conditions();
        tests();
        shown();
        inForce();
        depends();
        section("Section 3");
        revisions();
        sheets();
        section("Section 4");
        layouts();
        rowsBegun();
        groupsStand();
        fieldsStand();
        section("Section 5");
        whiteSpace();
        words();
        signs();
        grammar();
        ranges();
        errors();
        namesAndCircles();
        section("Section 6");
        nodeArguments();
        otherArguments();
        changesNothing();
        checkedFirst();
        operations();
        latestTen();
        constants();
        endOf("What it is");
        for (int number = 1; number <= 6; number++) {
            endOf("Section " + number);
        }
        end("SectionTests");
    }

    // ---- ahead of the sections

    private static void designer() {
        says("A designer of forms. A form is a tree of groups and fields with conditions;");
        FormDesigner x = form("form 14 14 1;group g{group h{yesno a width 1;}yesno b width 1 if a;}");
        due("form 14 14 1;group g{group h{yesno a width 1;}yesno b width 1 if a;}", setup(x));
        says("conditions that would depend on themselves are refused.");
        due(-1, condition(x, 0, "b"));
        due(-1, condition(x, 24, "a"));
        says("A form can be changed and published as revisions;");
        due(0, x.publish());
        due(true, x.move(0, -2, 0));
        due(1, x.publish());
        due(1, x.place(true, 0, 25, false));
        due(2, x.place(true, 1, 25, false));
        says("answers are given under a revision and are still shown in later revisions for the fields that exist there, whatever they are called.");
        x = sheet("form 40 40 1;yesno a width 4;yesno b width 4;");
        x.answer(0, 0, 1);
        x.answer(0, 1, 0);
        x.rename(0, letters("b") | letters("b") >> 5);
        x.remove(1);
        x.rename(0, letters("b"));
        x.publish();
        due(1, x.inForce(0, 1, 0));
        due(-1, x.inForce(0, 1, 1));
        x.advance(0);
        due("b=1_\n", text(x, false, 0));
    }

    private static void twoLayouts() {
        says("From one tree come two layouts: the screen shows what the conditions allow, the print is blank and has all branches.");
        FormDesigner x = sheet(SAMPLE);
        due("pet___ rest last______\n", text(x, false, 0));
        due("pet___\n#animal\n kind____\n age_\nrest\nlast______\n", text(x, true, 0));
        x.answer(0, 0, 1);
        due("pet=1_\n#animal\n kind____\nrest\n", text(x, false, 0));
        due("pet___\n#animal\n kind____\n age_\nrest\nlast______\n", text(x, true, 0));
    }

    private static void calls() {
        says("An object is used for at most 512 calls after it has been made; what later calls answer is free.");
        FormDesigner x = new FormDesigner();
        due(20, x.append(0x666F726D, 0x31342031, 0x3420313B, 0x7965736E, 0x6F206120));
        due(40, x.append(0x77696474, 0x6820313B, 0x20202020, 0x20202020, 0x20202020));
        due(1, x.load());
        due(0, x.publish());
        due(0, x.begin());
        // Six calls with this one; 253 times two make the 512.
        due(-2, x.advance(0));
        for (int i = 0; i < 253; i++) {
            due(i % 2 == 0 ? 0 : -2, x.answer(0, 0, i / 2 % 2));
            due(i / 2 % 2, x.inForce(0, 0, 0));
        }
    }

    // ---- 1. Forms

    private static void lists() {
        says("A form is a list of nodes in an order; a node is a field or a group.");
        FormDesigner x = new FormDesigner();
        due(-2, x.nodeAt(0));
        x = form("form 14 14 1;group b{}yesno c width 1;yesno a width 1;");
        due(24, x.nodeAt(0));
        due(0, x.nodeAt(1));
        due(1, x.nodeAt(2));
        due(-2, x.nodeAt(3));
        says("A group contains such a list as well (it may be empty).");
        x = form("form 14 14 1;group a{group b{}}group c{yesno x width 1;group d{}}");
        due(1, x.node(24, 8));
        due(0, x.node(25, 8));
        due(2, x.node(26, 8));
        due(0, x.node(27, 8));
        due("form 14 14 1;group a{group b{}}group c{yesno x width 1;group d{}}", setup(x));
        due(1, x.remove(0));
        due(0, x.remove(27));
        due(0, x.node(26, 8));
        due("form 14 14 1;group a{group b{}}group c{}", setup(x));
    }

    private static void numbers() {
        says("Fields and groups get numbers, each from 0, in the order in which they come into being;");
        FormDesigner x = form("form 14 14 1;group b{yesno x width 1;group a{}}yesno y width 1;");
        due(0, x.named(letters("x")));
        due(1, x.named(letters("y")));
        due(24, x.named(letters("b")));
        due(25, x.named(letters("a")));
        due(true, x.move(1, -2, 0));
        due(1, x.named(letters("y")));
        due(1, insert(x, 1, "yesno z width 1;group c{}"));
        due(2, x.named(letters("z")));
        due(26, x.named(letters("c")));
        says("numbers are never used again");
        x = form("form 14 14 1;yesno a width 1;group g{}");
        due(1, x.remove(0));
        due(0, x.remove(24));
        due(1, insert(x, -2, "yesno a width 1;group g{}"));
        due(1, x.named(letters("a")));
        due(25, x.named(letters("g")));
        due(-1, x.node(0, 0));
        due(-1, x.node(24, 0));
        // A text that is refused gives no numbers.
        due(-1, insert(x, -2, "yesno b width 1;yesno a width 1;"));
        due(2, x.value(7));
        due(1, insert(x, -2, "yesno b width 1;"));
        due(2, x.named(letters("b")));
        says("(but those that an undone insert() has given are not given any more, and come again),");
        x = form("form 14 14 1;yesno a width 1;");
        due(1, insert(x, -2, "yesno b width 1 if a;group g if a{}"));
        due(1, x.remove(1));
        due(1, x.undo());
        due(2, x.value(7));
        due(1, x.value(8));
        due(0, x.undo());
        due(1, x.value(7));
        due(0, x.value(8));
        due(-1, x.node(1, 0));
        due(1, insert(x, -2, "choice 3 c width 2;group h{}"));
        due(1, x.named(letters("c")));
        due(24, x.named(letters("h")));
        due(1, x.node(1, 0));
        due(0, x.node(1, 7));
        due(0, x.dependsOn(1));
        due(1, x.remove(0));
    }

    private static void mostNumbers() {
        says("and there are at most 24 fields and 8 groups in all since the form was loaded.");
        FormDesigner x = new FormDesigner();
        due(24, load(x, "form 14 14 1;" + fields(0, 24)));
        due(-1, insert(x, -2, "yesno more width 1;"));
        due(0, x.errorPosition());
        due(1, x.remove(5));
        due(-1, insert(x, -2, "yesno more width 1;"));
        due(-1, load(x, "form 14 14 1"));
        due(-1, insert(x, -2, "yesno more width 1;"));
        due(23, load(x, "form 14 14 1;" + fields(0, 23)));
        due(1, insert(x, -2, "yesno more width 1;"));
        due(24, x.value(7));
        due(-1, insert(x, -2, "yesno one width 1;"));
        due(0, x.undo());
        due(-1, insert(x, -2, "yesno z width 1;yesno y width 1;"));
        due(16, x.errorPosition());
        due(1, insert(x, -2, "yesno z width 1;"));
        due(0, load(x, "form 14 14 1;" + groups(0, 8)));
        due(-1, insert(x, -2, "group more{}"));
        due(0, x.errorPosition());
        due(0, x.remove(31));
        due(-1, insert(x, 0, "group more{}"));
        due(0, load(x, "form 14 14 1;" + groups(0, 7)));
        due(0, insert(x, 6, "group more{}"));
        due(-1, insert(x, 0, "group one{}"));
        // A form that was never loaded has as much room.
        x = new FormDesigner();
        due(24, insert(x, -2, fields(0, 24)));
        due(0, insert(x, -2, groups(0, 8)));
        due(-1, insert(x, -2, "yesno more width 1;"));
        due(-1, insert(x, -2, "group more{}"));
        due(24, x.value(3));
        due(8, x.value(4));
    }

    private static void depth() {
        says("Groups lie within one another at most 4 deep (a group that lies in no other one has the depth 1).");
        FormDesigner x = form("form 14 14 1;group a{group b{group c{group d{}}}}group e{}");
        due(0, x.node(24, 6));
        due(3, x.node(27, 6));
        due(-1, insert(x, 3, "group f{}"));
        due(0, x.errorPosition());
        due(0, insert(x, 2, "group f{}"));
        due(false, x.move(24, 4, 0));
        due(false, x.move(28, 3, 0));
        due(true, x.move(28, 2, 0));
        due(1, insert(x, 3, "yesno x width 1;"));
        due(4, x.node(0, 6));
        x = form("form 14 14 1;group a{}group b{group c{group d{group e{}}}}");
        due(false, x.move(24, 4, 0));
        due(true, x.move(24, 3, 1));
        due(1000, wrongAt("form 14 14 1;group a{group b{group c{group d{}}}}"));
        due(45, wrongAt("form 14 14 1;group a{group b{group c{group d{group e{}}}}}"));
        says("A node argument is the number of a field, or 24 plus the number of a group.");
        x = form("form 14 14 1;" + fields(0, 24) + groups(0, 8));
        due(2, x.node(0, 0));
        due(2, x.node(23, 0));
        due(3, x.node(24, 0));
        due(3, x.node(31, 0));
        due(-1, x.node(32, 0));
        due(-1, x.node(-1, 0));
        due("x", name(x, 23));
        due("ga", name(x, 24));
        due("gh", name(x, 31));
    }

    private static void names() {
        says("A node has a name of 1 to 8 letters (a to z);");
        FormDesigner x = form("form 14 14 1;yesno a width 1;yesno abcdefgh width 1;group z{}group zzzzzzzz{}");
        due("a", name(x, 0));
        due("abcdefgh", name(x, 1));
        due("z", name(x, 24));
        due("zzzzzzzz", name(x, 25));
        due(19, wrongAt("form 14 14 1;yesno abcdefghi width 1;"));
        due(19, wrongAt("form 14 14 1;group abcdefghi{}"));
        due(20, wrongAt("form 14 14 1;yesno  width 1;"));
        due(19, wrongAt("form 14 14 1;group {}"));
        due(19, wrongAt("form 14 14 1;yesno 1 width 1;"));
        due(19, wrongAt("form 14 14 1;yesno A width 1;"));
        due(20, wrongAt("form 14 14 1;yesno aZ width 1;"));
        due(20, wrongAt("form 14 14 1;yesno a1 width 1;"));
        due(19, wrongAt("form 14 14 1;yesno ` width 1;"));
        due(19, wrongAt("form 14 14 1;yesno { width 1;"));
        says("no two nodes of a form have the same name.");
        due(35, wrongAt("form 14 14 1;yesno a width 1;yesno a width 1;"));
        due(35, wrongAt("form 14 14 1;yesno a width 1;group a{}"));
        due(28, wrongAt("form 14 14 1;group a{}group a{}"));
        due(27, wrongAt("form 14 14 1;group a{group a{}}"));
        due(28, wrongAt("form 14 14 1;group a{}yesno a width 1;"));
        due(false, x.rename(0, letters("z")));
        due(false, x.rename(24, letters("a")));
        due(false, x.rename(0, letters("a")));
        due(-1, insert(x, 0, "yesno abcdefgh width 1;"));
        due(6, x.errorPosition());
        due(-1, insert(x, 0, "group zzzzzzzz{}"));
        // Names that only begin alike are different ones, and a name is free when its node is gone.
        due(2, insert(x, 0, "yesno abcdefg width 1;yesno zzzzzz width 1;"));
        due(true, x.rename(0, letters("abcdef")));
        due(1, insert(x, 0, "yesno a width 1;"));
        due(1, x.remove(1));
        due(1, insert(x, 0, "yesno abcdefgh width 1;"));
    }

    private static void kinds() {
        says("A field has a width (1 to 10)");
        String yesno = "form 14 14 1;yesno a width ";
        due(27, wrongAt(yesno + "0;"));
        due(1001, wrongAt(yesno + "1;"));
        due(1001, wrongAt(yesno + "10;"));
        due(27, wrongAt(yesno + "11;"));
        due(27, wrongAt(yesno + "9999;"));
        says("and a kind: number (0) with a lowest and a highest value (0 to 9999, the lowest at most the highest),");
        FormDesigner x = sheet(NUMBER + "0 0 a width 1;number 9999 9999 b width 1;number 0 9999 c width 1;number 6 7 d width 1;");
        int[][] ends = {{0, 0}, {9999, 9999}, {0, 9999}, {6, 7}};
        for (int field = 0; field < 4; field++) {
            due(0, x.node(field, 0));
            due(ends[field][0], x.node(field, 1));
            due(ends[field][1], x.node(field, 2));
            due(-1, x.answer(0, field, ends[field][0] - 1));
            due(-1, x.answer(0, field, ends[field][1] + 1));
            due(0, x.answer(0, field, ends[field][1]));
            due(ends[field][1], x.inForce(0, 0, field));
            due(ends[field][0] == ends[field][1] ? -2 : 0, x.answer(0, field, ends[field][0]));
            due(ends[field][0], x.inForce(0, 0, field));
        }
        due(22, wrongAt(NUMBER + "1 0 a width 1;"));
        due(25, wrongAt(NUMBER + "9999 9998 a width 1;"));
        due(22, wrongAt(NUMBER + "0 10000 a width 1;"));
        due(20, wrongAt(NUMBER + "10000 10000 a width 1;"));
        says("choice (1) with 2 to 9 options (the values are 0 to the number of options minus 1),");
        due(20, wrongAt("form 14 14 1;choice 1 a width 1;"));
        due(20, wrongAt("form 14 14 1;choice 10 a width 1;"));
        due(20, wrongAt("form 14 14 1;choice 0 a width 1;"));
        for (int options = 2; options <= 9; options++) {
            x = sheet("form 14 14 1;choice " + options + " a width 1;");
            due(1, x.node(0, 0));
            due(options - 1, x.node(0, 2));
            due(-1, x.answer(0, 0, -1));
            due(0, x.answer(0, 0, 0));
            due(0, x.answer(0, 0, options - 1));
            due(-1, x.answer(0, 0, options));
        }
        says("or yesno (2; the values are 0 and 1).");
        x = sheet("form 14 14 1;yesno a width 1;");
        due(2, x.node(0, 0));
        due(-1, x.answer(0, 0, -1));
        due(0, x.answer(0, 0, 0));
        due(0, x.answer(0, 0, 1));
        due(-1, x.answer(0, 0, 2));
    }

    // ---- 2. Conditions

    private static void conditions() {
        says("A node may have a condition, which refers to fields.");
        FormDesigner x = sheet("form 14 14 1;yesno a width 1;yesno b width 1 if a;group g if a{}group h{}");
        due(false, x.isShown(0, 0, 1));
        due(false, x.isShown(0, 0, 24));
        due(true, x.isShown(0, 0, 25));
        due(2, x.answer(0, 0, 1));
        due(true, x.isShown(0, 0, 1));
        due(true, x.isShown(0, 0, 24));
        says("A condition is built of tests with \"or\", \"and\" (which binds closer), \"not\" (which binds closest) and parentheses.");
        String[] texts = {"a or b and c", "(a or b) and c", "a and b or c", "not a or b", "not (a or b)", "not a and b",
            "not (a and b)", "not not a", "not (not a and b) or c", "a or b or c", "a and b and c", "a and (b or c)"};
        String[] hold = {"00011111", "00010101", "01010111", "11110011", "11000000", "00110000",
            "11111100", "00001111", "11011111", "01111111", "00000001", "00000111"};
        for (int i = 0; i < texts.length; i++) {
            due(hold[i], holds(texts[i]));
        }
        says("Each test refers to a field.");
        due(-1, condition(x, 1, "h"));
        due(0, x.errorPosition());
        due(-1, condition(x, 1, "b or a"));
        due(0, x.errorPosition());
        due(2, condition(x, 1, "a or a"));
        due(1, x.dependsOn(1));
    }

    /** Whether a condition holds for a, b, c from 000 to 111; 0 is given in turn as no answer and as no. */
    private static String holds(String condition) {
        FormDesigner x = sheet("form 14 14 1;yesno a width 1;yesno b width 1;yesno c width 1;yesno t width 1 if " + condition + ";");
        StringBuilder holds = new StringBuilder();
        for (int i = 0; i < 8; i++) {
            for (int field = 0; field < 3; field++) {
                int given = i >> (2 - field) & 1;
                x.answer(0, field, given == 0 && i % 3 == 0 ? -2 : given);
            }
            holds.append(x.isShown(0, 0, 3) ? '1' : '0');
        }
        return holds.toString();
    }

    private static void tests() {
        String form = NUMBER + "0 9999 a width 1;number 5 9999 b width 1;";
        String t = "yesno t width 1 if ";
        says("It holds if the field is in force and its value is not 0;");
        FormDesigner x = sheet(form + t + "a;");
        due(false, x.isShown(0, 0, 2));
        due(0, x.answer(0, 0, 0));
        due(1, x.answer(0, 0, 1));
        due(0, x.answer(0, 0, 9999));
        due(1, x.answer(0, 0, -2));
        says("with a sign and a number, if the field is in force and its value is equal to the number (=), less (<) or greater (>).");
        int[] values = {-2, 0, 1, 4, 5, 6, 9998, 9999};
        String[] tests = {"a = 0", "a < 0", "a > 0", "a < 1", "a = 5", "a < 5", "a > 5", "a = 9999", "a < 9999", "a > 9999", "a > 9998"};
        String[] hold = {"01000000", "00000000", "00111111", "01000000", "00001000", "01110000", "00000111", "00000001",
            "01111110", "00000000", "00000001"};
        for (int i = 0; i < tests.length; i++) {
            x = sheet(form + t + tests[i] + ";");
            StringBuilder holds = new StringBuilder();
            for (int value : values) {
                x.answer(0, 0, value);
                holds.append(x.isShown(0, 0, 2) ? '1' : '0');
            }
            due(tests[i] + " " + hold[i], tests[i] + " " + holds);
        }
        // A number that is no value of the field's kind is only never equal.
        x = sheet(form + t + "b = 4 or b < 5;yesno u width 1 if b > 4;");
        x.answer(0, 1, 5);
        due(false, x.isShown(0, 0, 2));
        due(true, x.isShown(0, 0, 3));
        // Out of force no test holds, whatever its sign.
        x = sheet("form 14 14 1;yesno p width 1;number 0 9 a width 1 if p;" + t + "a;yesno u width 1 if a = 0;"
                + "yesno v width 1 if a < 9;yesno w width 1 if a > 0;");
        due(1, x.answer(0, 0, 1));
        due(2, x.answer(0, 1, 0));
        due(3, x.answer(0, 1, 5));
        due(4, x.answer(0, 0, 0));
        due(0, x.open(0));
        for (int field = 1; field < 6; field++) {
            due(false, x.isShown(0, 0, field));
        }
    }

    private static void shown() {
        says("A node is shown if its condition holds (or if it has none) and the group in which it lies, if there is one, is shown.");
        FormDesigner x = sheet("form 14 14 1;yesno p width 1;yesno q width 1;group a if p{group b{group c if q{group d{yesno x width 1 if p;}}}}");
        due(true, x.isShown(0, 0, 0));
        for (int node : new int[] {2, 24, 25, 26, 27}) {
            due(false, x.isShown(0, 0, node));
        }
        due(0, x.answer(0, 1, 1));
        due(false, x.isShown(0, 0, 26));
        due(5, x.answer(0, 0, 1));
        for (int node : new int[] {0, 1, 2, 24, 25, 26, 27}) {
            due(true, x.isShown(0, 0, node));
        }
        due(3, x.answer(0, 1, 0));
        due(true, x.isShown(0, 0, 25));
        due(false, x.isShown(0, 0, 26));
        due(false, x.isShown(0, 0, 27));
        due(false, x.isShown(0, 0, 2));
    }

    private static void inForce() {
        says("A field is in force if it is shown, there is an answer for it, and this answer is a value of its kind (in the form that is looked at).");
        FormDesigner x = sheet("form 14 14 1;yesno p width 1;number 3 7 a width 1 if p;");
        due(-2, x.inForce(0, 0, 1));
        x.answer(0, 0, 1);
        due(-2, x.inForce(0, 0, 1));
        x.answer(0, 1, 7);
        due(7, x.inForce(0, 0, 1));
        x.answer(0, 0, 0);
        due(-2, x.inForce(0, 0, 1));
        due(0, x.inForce(0, 0, 0));
        x.answer(0, 0, 1);
        int[][] kinds = {{0, 7, 9}, {0, 8, 9}, {0, 0, 7}, {0, 0, 6}, {1, 0, 8}, {1, 0, 7}, {2, 0, 1}};
        int[] want = {7, -2, 7, -2, 7, -2, -2};
        for (int i = 0; i < kinds.length; i++) {
            x.setKind(1, kinds[i][0], kinds[i][1], kinds[i][2]);
            due(i + 1, x.publish());
            due(want[i], x.inForce(0, i + 1, 1));
            due(true, x.isShown(0, i + 1, 1));
            due(7, x.inForce(0, 0, 1));
        }
    }

    private static void depends() {
        says("A field depends on the fields to which its condition and the conditions of all groups around it refer.");
        FormDesigner x = form("form 14 14 1;" + fields(0, 6) + "group ga if a{group gb if b or b{group gc{group gd if c and d = 3"
                + "{yesno x width 1 if not(e or a);yesno y width 1;}}}}group ge if f{}");
        due(0, x.dependsOn(0));
        due(31, x.dependsOn(6));
        due(15, x.dependsOn(7));
        due(0, condition(x, 27, ""));
        due(3, x.dependsOn(7));
        due(true, x.move(7, -2, 0));
        due(0, x.dependsOn(7));
        due(0, x.dependents(5));
        due(true, x.move(7, 4, 0));
        due(32, x.dependsOn(7));
        says("A change with which a field would depend on itself, directly or through other fields, is refused.");
        String circle = "form 14 14 1;yesno a width 1 if c;yesno b width 1 if a;group g if b{yesno c width 1;}";
        due(circle.indexOf("b{"), wrongAt(circle));
        due(32, wrongAt("form 14 14 1;yesno a width 1 if a;"));
        x = form("form 14 14 1;yesno a width 1;yesno b width 1 if a;group g if b{yesno c width 1;}group h{}");
        String before = picture(x);
        due(-1, condition(x, 0, "a"));
        due(-1, condition(x, 0, "b"));
        due(-1, condition(x, 0, "c"));
        due(-1, condition(x, 24, "c"));
        due(-1, insert(x, 1, "group i if d{yesno e width 1;yesno d width 1;}"));
        due(-1, insert(x, 1, "yesno d width 1 if e;yesno e width 1 if d;"));
        due(false, x.move(0, 0, 0));
        due(false, x.move(1, 0, 1));
        due(before, picture(x));
        due(-1, x.undo());
        // An empty group makes nothing depend, until a field comes into it.
        due(1, condition(x, 25, "c"));
        due(false, x.move(0, 1, 0));
        due(false, x.move(24, 1, 0));
        due(0, condition(x, 25, ""));
        due(true, x.move(0, 1, 0));
        due(-1, condition(x, 25, "c"));
    }

    // ---- 3. Draft, revisions, answers

    private static void revisions() {
        says("The draft is the form that is changed.");
        FormDesigner x = form(SAMPLE);
        x.publish();
        due(1, x.remove(2));
        due(4, x.value(3));
        due(true, x.rename(0, letters("dog")));
        due(1, condition(x, 3, "last"));
        due(true, x.move(24, -2, 0));
        due(1, x.setKind(1, 2, 0, 1));
        due("form 40 30 5;group animal if dog{yesno kind width 8;}yesno dog width 6;number 5 9 rest width 4 if last;"
                + "yesno last width 10 if not dog;", setup(x));
        says("Publishing makes a revision, a copy of the draft that does not change any more;");
        due("pet___\n#animal\n kind____\n age_\nrest\nlast______\n", text(x, true, 0));
        due(true, x.exists(0, 2));
        x.begin();
        due(3, x.answer(0, 0, 1));
        due(1, x.answer(0, 1, 2));
        x.undo();
        due(1, x.publish());
        due("#animal\n kind____\ndog___\nrest\nlast______\n", text(x, true, 1));
        due(false, x.exists(1, 2));
        says("there are at most 8, numbered from 0.");
        for (int i = 2; i < 8; i++) {
            due(i, x.publish());
        }
        due(-2, x.publish());
        due(8, x.value(5));
        due(true, x.exists(7, 0));
        due(false, x.exists(8, 0));
    }

    private static void sheets() {
        says("A sheet is a set of answers that belongs to a revision;");
        FormDesigner x = sheet(SAMPLE);
        x.publish();
        x.begin();
        due(0, x.revisionOf(0));
        due(1, x.revisionOf(1));
        x.answer(0, 0, 1);
        due(1, x.answers(0));
        due(0, x.answers(1));
        says("there are at most 10, numbered from 0.");
        for (int i = 2; i < 10; i++) {
            due(i, x.begin());
        }
        due(-2, x.begin());
        due(10, x.value(6));
        due(1, x.revisionOf(9));
        due(-1, x.revisionOf(10));
        says("An answer belongs to a field by its number.");
        x = sheet(SAMPLE);
        x.answer(0, 3, 8);
        x.rename(3, letters("other"));
        x.move(3, 0, 0);
        condition(x, 24, "");
        insert(x, -2, "number 5 9 rest width 4;");
        x.publish();
        due(8, x.inForce(0, 1, 3));
        due(-2, x.inForce(0, 1, 5));
        due(0, x.advance(0));
        due("pet___\n#animal\n othe kind____\nlast______ rest\n", text(x, false, 0));
        says("A sheet keeps its answers when its fields are not shown any more.");
        x = sheet(SAMPLE);
        x.answer(0, 0, 1);
        x.answer(0, 1, 1);
        x.answer(0, 2, 40);
        x.answer(0, 0, 0);
        due(3, x.answers(0));
        due(-2, x.inForce(0, 0, 2));
        x.answer(0, 0, 1);
        due(40, x.inForce(0, 0, 2));
        says("Moving a sheet to a later revision keeps the answers of the fields that exist there and deletes the others");
        x.answer(0, 3, 9);
        x.publish();
        x.remove(2);
        x.publish();
        x.remove(24);
        x.publish();
        due(2, x.advance(0));
        due(2, x.answers(0));
        due(-2, x.inForce(0, 0, 1));
        due(9, x.inForce(0, 0, 3));
        says("(also if the answers are no values of the kinds of these fields).");
        x.setKind(3, 0, 0, 8);
        x.publish();
        due(0, x.advance(0));
        due(2, x.answers(0));
        due(-2, x.inForce(0, 4, 3));
        due(9, x.inForce(0, 3, 3));
        x.setKind(3, 0, 0, 9);
        x.publish();
        due(0, x.advance(0));
        due(9, x.inForce(0, 5, 3));
    }

    // ---- 4. Layouts

    private static void layouts() {
        says("The screen layout of a sheet has SCREEN columns and contains the shown nodes of its revision.");
        FormDesigner x = sheet("form 14 15 9;yesno a width 10;yesno b width 3;group g if a{yesno c width 1;}yesno d width 10;yesno e width 4;");
        due("0,0", at(x, false, 0, 0));
        due("0,11", at(x, false, 0, 1));
        due("-2,-2", at(x, false, 0, 24));
        due("-2,-2", at(x, false, 0, 2));
        due("1,0", at(x, false, 0, 3));
        due("2,0", at(x, false, 0, 4));
        x.answer(0, 0, 1);
        due("1,0", at(x, false, 0, 24));
        due("2,1", at(x, false, 0, 2));
        due("3,0", at(x, false, 0, 3));
        says("The print layout of a revision has PRINT columns and contains all of its nodes; its pages have PAGE rows.");
        x.answer(0, 0, 0);
        due("1,0", at(x, true, 0, 24));
        due("2,1", at(x, true, 0, 2));
        due("3,0", at(x, true, 0, 3));
        due("3,11", at(x, true, 0, 4));
        due(4, x.rows(true, 0));
        due(1, x.pages(0));
        x = sheet("form 60 14 1;" + fields(0, 24));
        due(1, x.rows(false, 0));
        due("0,46", at(x, false, 0, 23));
        due("0,12", at(x, true, 0, 6));
        due("1,0", at(x, true, 0, 7));
        due(4, x.rows(true, 0));
        due(4, x.pages(0));
        says("A layout goes through the nodes in their order, and has a present row (at first 0) and a present column (at first 0).");
        x = sheet("form 20 20 2;yesno a width 3;yesno b width 3;");
        due("0,0", at(x, true, 0, 0));
        due("0,4", at(x, true, 0, 1));
        x.move(1, -2, 0);
        x.publish();
        due("0,0", at(x, true, 1, 1));
        due("0,4", at(x, true, 1, 0));
        x = sheet("form 20 20 2;group g{}");
        due("0,0", at(x, true, 0, 24));
        due("0,0", at(x, false, 0, 24));
    }

    private static void rowsBegun() {
        says("To begin a row at a column means: if something stands in the present row, the present row increases by 1; in any case the present column becomes this column.");
        // Rows that are begun one behind another with nothing between them are one row.
        FormDesigner x = sheet("form 20 20 9;group a{group b{group c{group d{}}}}yesno x width 1;yesno y width 1;");
        for (boolean print : new boolean[] {true, false}) {
            for (int group = 0; group < 4; group++) {
                due(group + "," + group, at(x, print, 0, 24 + group));
            }
            due("4,0", at(x, print, 0, 0));
            due("4,2", at(x, print, 0, 1));
        }
        x = sheet("form 20 20 9;group a{}group b{}yesno x width 1 if y;yesno y width 1;");
        due("1,0", at(x, true, 0, 25));
        due("2,0", at(x, true, 0, 0));
        due("2,2", at(x, true, 0, 1));
        due("2,0", at(x, false, 0, 1));
        says("Let d be the number of the groups around a node.");
        x = sheet("form 20 20 9;yesno v width 1;group a{yesno w width 1;group b{group c{group d{yesno x width 1;}yesno y width 1;}}yesno z width 1;}yesno u width 1;");
        for (boolean print : new boolean[] {true, false}) {
            due("0,0", at(x, print, 0, 0));
            due("2,1", at(x, print, 0, 1));
            due("6,4", at(x, print, 0, 2));
            due("7,3", at(x, print, 0, 3));
            due("8,1", at(x, print, 0, 4));
            due("9,0", at(x, print, 0, 5));
        }
    }

    private static void groupsStand() {
        says("- A group: a row is begun at d.");
        FormDesigner x = sheet("form 40 40 60;yesno a width 1;group g{yesno b width 1;group h{}}group i{}");
        due("1,0", at(x, true, 0, 24));
        due("3,1", at(x, true, 0, 25));
        due("4,0", at(x, false, 0, 26));
        says("In the print layout, if PAGE is at least 2 and the present row is the last one of its page (that is, it is PAGE - 1 modulo PAGE), the present row increases by 1.");
        String three = ";group a{}group b{}group c{}group d{}";
        int[][] rows = {{0, 1, 2, 3}, {0, 2, 4, 6}, {0, 1, 3, 4}, {0, 1, 2, 4}, {0, 1, 2, 3}};
        for (int page = 1; page <= 5; page++) {
            x = sheet("form 14 14 " + page + three);
            for (int group = 0; group < 4; group++) {
                due(rows[page - 1][group], x.place(true, 0, 24 + group, false));
                due(group, x.place(false, 0, 24 + group, false));
            }
        }
        x = sheet("form 14 14 60;" + fields(0, 24).replace("width 1", "width 10") + groups(0, 8));
        due(31, x.place(true, 0, 31, false));
        // A field may stand in the last row of a page.
        x = sheet("form 14 14 2;group g{yesno a width 1;yesno b width 1 if a;}yesno c width 1;group h{}");
        due("1,1", at(x, true, 0, 0));
        due("2,1", at(x, true, 0, 1));
        due("3,0", at(x, true, 0, 2));
        due("4,0", at(x, true, 0, 25));
        says("The group stands in the present row at the present column.");
        x = sheet("form 14 14 3;group a{group b{group c{}}}");
        due("0,0", at(x, true, 0, 24));
        due("1,1", at(x, true, 0, 25));
        due("3,2", at(x, true, 0, 26));
        due("#a\n #b\n\n  #c\n", text(x, true, 0));
        due("#a\n #b\n  #c\n", text(x, false, 0));
        says("Then a row is begun at d + 1, the nodes of the group come, and a row is begun at d.");
        x = sheet("form 14 14 9;group a{yesno x width 2;yesno y width 2;}yesno z width 2;");
        due("#a\n x_ y_\nz_\n", text(x, true, 0));
        x = sheet("form 14 14 9;group a{}yesno z width 2;");
        due("#a\nz_\n", text(x, true, 0));
        x = sheet("form 14 14 9;group a{yesno x width 2 if z;}yesno z width 2;");
        due("#a\nz_\n", text(x, false, 0));
        due("#a\n x_\nz_\n", text(x, true, 0));
    }

    private static void fieldsStand() {
        says("- A field: in the print layout, if it has a condition of its own, a row is begun at d.");
        FormDesigner x = sheet("form 40 40 9;yesno a width 2;yesno b width 2 if not a;yesno c width 2;group g if not a{yesno d width 2;yesno e width 2;yesno f width 2 if not a;}");
        due("a_\nb_ c_\n#g\n d_ e_\n f_\n", text(x, true, 0));
        due("a_ b_ c_\n#g\n d_ e_ f_\n", text(x, false, 0));
        // If nothing stands in the row yet, it stays the same.
        x = sheet("form 40 40 9;yesno a width 2 if b;yesno b width 2;");
        due("a_ b_\n", text(x, true, 0));
        says("If the present column plus its width is greater than the number of columns, a row is begun at d.");
        x = sheet("form 14 15 9;yesno a width 10;yesno b width 3;yesno c width 10;yesno d width 4;yesno e width 10;yesno f width 5;");
        due("a_________ b__\nc_________\nd___\ne_________\nf____\n", text(x, false, 0));
        due("a_________ b__\nc_________ d___\ne_________\nf____\n", text(x, true, 0));
        // Four groups deep the widest field ends in the narrowest layout's last column.
        x = sheet("form 14 14 9;group a{group b{group c{group d{yesno x width 10;yesno y width 10;}}}}");
        due("4,4", at(x, false, 0, 0));
        due("5,4", at(x, false, 0, 1));
        due("5,4", at(x, true, 0, 1));
        says("The field stands in the present row at the present column; then the present column increases by its width plus 1.");
        x = sheet("form 60 60 9;yesno a width 1;yesno b width 10;yesno c width 2;yesno d width 1;");
        due("0,2", at(x, true, 0, 1));
        due("0,13", at(x, true, 0, 2));
        due("0,16", at(x, false, 0, 3));
        // Fourteen columns are used up by 6 and 6: what comes does not fit.
        x = sheet("form 14 14 9;yesno a width 6;yesno b width 6;yesno c width 1;");
        due("1,0", at(x, true, 0, 2));
        x = sheet("form 14 15 9;yesno a width 6;yesno b width 6;yesno c width 1;");
        due("0,14", at(x, true, 0, 2));
        due("1,0", at(x, false, 0, 2));
        says("The rows of a layout are the rows up to the last one in which something stands.");
        due(1, x.rows(true, 0));
        due(2, x.rows(false, 0));
        x = sheet("form 14 15 9;");
        due(0, x.rows(true, 0));
        due(0, x.rows(false, 0));
        x = sheet("form 14 15 2;group a{}group b{}");
        due(3, x.rows(true, 0));
        due(2, x.rows(false, 0));
        x = sheet("form 14 15 9;yesno a width 1;yesno b width 1 if a;group g if a{}");
        due(1, x.rows(false, 0));
        due(3, x.rows(true, 0));
    }

    // ---- 5. Texts

    private static void whiteSpace() {
        says("Tokens are formed greedily.");
        due(0, wrongAt("formed 14 14 1;"));
        due(1000, wrongAt("form14 14 1;"));
        due(5, wrongAt("form 1414 1;"));
        due(25, wrongAt("form 14 14 1;yesno awidth1;"));
        due(1001, wrongAt("form 14 14 1;yesno a width1;"));
        due(1001, wrongAt("form 14 14 1;choice2a width 1;"));
        due(1002, wrongAt("form 14 14 1;yesno b width 1;yesno a width 1if(b=1or b)and(not(b));"));
        says("White space (bytes 32 and 10) may stand ahead of the first token, between any two tokens and behind the last one.");
        for (int sign = 0; sign < 256; sign++) {
            boolean white = sign == 32 || sign == 10;
            due(white ? 1000 : 13, wrongAt("form 14 14 1;" + (char) sign));
            due(white ? 1000 : 0, wrongAt((char) sign + "form 14 14 1;"));
        }
        due(1002, wrongAt("\n \n form\n14  14\n1 ; yesno\nb width 1 ;\n\nyesno a width 1 if ( b = 1 ) ; \n "));
        due(7, wrongAt("form 14\t14 1;"));
        due(0, wrongAt("fo rm 14 14 1;"));
        due(5, wrongAt("form 1 4 14 1;"));
    }

    private static void words() {
        says("A maximal run of the letters a to z is a word.");
        due(13, wrongAt("form 14 14 1;yesnoa width 1;"));
        due(0, wrongAt("Form 14 14 1;"));
        due(0, wrongAt("forM 14 14 1;"));
        says("A word is a keyword if it is quoted in the grammar;");
        for (String keyword : "form group if width number choice yesno or and not".split(" ")) {
            due(19, wrongAt("form 14 14 1;yesno " + keyword + " width 1;"));
            due(19, wrongAt("form 14 14 1;group " + keyword + "{}"));
        }
        says("otherwise it is a NAME, which has 1 to 8 letters.");
        for (String name : "forms for iff i widths numbers choices yesnos yes no o ors an ands no nots groups a z zzzzzzzz".split(" ")) {
            due(1001, wrongAt("form 14 14 1;yesno " + name + " width 1;"));
            due(1000, wrongAt("form 14 14 1;group " + name + "{}"));
        }
        due(19, wrongAt("form 14 14 1;yesno aaaaaaaaa width 1;"));
        due(19, wrongAt("form 14 14 1;yesno abcdefghijklmnopqrstuvwxyz width 1;"));
        due(TWO.length(), wrongAt(TWO + "aaaaaaaaa;"));
        due(TWO.length(), wrongAt(TWO + "aaaaaaaaa;#"));
        says("A maximal run of digits is an INT; it has 1 to 4 digits (perhaps with leading zeros).");
        due(1000, wrongAt("form 0014 060 01;"));
        due(5, wrongAt("form 00014 14 1;"));
        due(14, wrongAt("form 0014 060 00001;"));
        due(1001, wrongAt("form 14 14 1;number 0000 9999 a width 0010;"));
        due(25, wrongAt("form 14 14 1;number 0000 00000 a width 1;"));
        due(1002, wrongAt(TWO + "a = 0009;"));
        due(TWO.length() + 4, wrongAt(TWO + "a = 00009;"));
        due(TWO.length() + 4, wrongAt(TWO + "a = 99999;"));
        due(TWO.length() + 4, wrongAt(TWO + "a = 4294967296;"));
        due(TWO.length() + 4, wrongAt(TWO + "a = 18446744073709551617;"));
        FormDesigner x = form(TWO + "a = 0012;");
        due(TWO + "a = 12;", setup(x));
    }

    private static void signs() {
        says("The only other tokens are ; { } ( ) = < and >.");
        int at = TWO.length();
        for (int sign = 0; sign < 256; sign++) {
            char c = (char) sign;
            boolean test = c == '=' || c == '<' || c == '>';
            boolean joins = c == ' ' || c == '\n' || c >= 'a' && c <= 'z';
            due(test ? 1002 : at + (joins || c == ';' ? 2 : 1), wrongAt(TWO + "a" + c + "1;"));
            due(c == '(' ? 1002 : at + (joins ? 2 : 0), wrongAt(TWO + c + "a);"));
        }
        // Signs are a byte each, however they stand together.
        due(1002, wrongAt(TWO + "((a));"));
        due(at + 2, wrongAt(TWO + "a==1;"));
        due(at + 2, wrongAt(TWO + "a<>1;"));
        due(1000, wrongAt("form 14 14 1;group a{group b{}}"));
    }

    private static void grammar() {
        says("setup = \"form\" INT INT INT \";\" nodes");
        String[] tokens = ("form 14 60 1 ; number 0 9 a width 3 ; group g if a { choice 2 b width 1 if not ( a = 1 or a and a < 2 ) ; } "
                + "yesno c width 10 ; ").split(" ");
        breaks(tokens, 0, 5);
        says("nodes = { node }");
        due(1000, wrongAt("form 14 60 1;"));
        breaks(tokens, 5, 12);
        says("node = \"group\" NAME [ \"if\" condition ] \"{\" nodes \"}\" | kind NAME \"width\" INT [ \"if\" condition ] \";\"");
        breaks(tokens, 12, 22);
        says("kind = \"number\" INT INT | \"choice\" INT | \"yesno\"");
        due(13, wrongAt("form 14 14 1;a width 1;"));
        due(20, wrongAt("form 14 14 1;number a width 1;"));
        due(22, wrongAt("form 14 14 1;number 1 a width 1;"));
        due(24, wrongAt("form 14 14 1;number 1 2 3 a width 1;"));
        due(20, wrongAt("form 14 14 1;choice a width 1;"));
        due(22, wrongAt("form 14 14 1;choice 2 2 a width 1;"));
        due(19, wrongAt("form 14 14 1;yesno 1 a width 1;"));
        says("condition = conjunction { \"or\" conjunction }");
        breaks(tokens, 22, 28);
        says("conjunction = test { \"and\" test }");
        breaks(tokens, 28, 34);
        says("test = \"not\" test | \"(\" condition \")\" | NAME [ ( \"=\" | \"<\" | \">\" ) INT ]");
        breaks(tokens, 34, tokens.length);
        int at = TWO.length();
        // What begins a node is no test, though it could stand behind the semicolon.
        due(at, wrongAt(TWO + "yesno c width 1;"));
        due(at + 5, wrongAt(TWO + "a or group g{}"));
        due(24, wrongAt("form 14 14 1;group g if yesno a width 1;"));
        due(at, wrongAt(TWO + "or a;"));
        due(at, wrongAt(TWO + "and a;"));
        due(at, wrongAt(TWO + "= 1;"));
        due(at, wrongAt(TWO + "1 = a;"));
        due(at + 4, wrongAt(TWO + "not = 1;"));
        due(at + 4, wrongAt(TWO + "not and a;"));
        due(at + 2, wrongAt(TWO + "a not a;"));
        due(at + 2, wrongAt(TWO + "a (a);"));
        due(at + 6, wrongAt(TWO + "a = 1 = 1;"));
        due(at + 4, wrongAt(TWO + "(a) = 1;"));
        due(at + 1, wrongAt(TWO + "();"));
        due(at + 2, wrongAt(TWO + "(a;"));
        due(at + 3, wrongAt(TWO + "(a));"));
    }

    /** Breaks the text off ahead of each of these tokens, and puts a wrong one in its place. */
    private static void breaks(String[] tokens, int from, int to) {
        for (int k = from; k < to; k++) {
            String before = String.join(" ", Arrays.copyOf(tokens, k)) + (k == 0 ? "" : " ");
            boolean whole = k == 5 || k == 12 || k == 37;
            if (!whole) {
                due(k + " " + before.length(), k + " " + wrongAt(before));
            }
            due(k + " " + before.length(), k + " " + wrongAt(before + "# " + tokens[k]));
        }
    }

    private static void ranges() {
        says("The INTs of \"form\" are SCREEN and PRINT (14 to 60 each) and PAGE (1 to 60).");
        int[][] right = {{14, 14, 1}, {60, 60, 60}, {14, 60, 60}, {60, 14, 1}};
        for (int[] r : right) {
            FormDesigner x = form("form " + r[0] + " " + r[1] + " " + r[2] + ";");
            for (int what = 0; what < 3; what++) {
                due(r[what], x.value(what));
            }
        }
        for (int wrong : new int[] {0, 1, 13, 61, 100, 9999}) {
            due(5, wrongAt("form " + wrong + " 14 1;"));
            due(8, wrongAt("form 14 " + wrong + " 1;"));
        }
        for (int wrong : new int[] {0, 61, 100, 9999}) {
            due(11, wrongAt("form 14 14 " + wrong + ";"));
        }
        says("At most 6 of \"not\" and \"(\" may be around a test.");
        int at = TWO.length();
        due(1002, wrongAt(TWO + "not not not not not not a;"));
        due(1002, wrongAt(TWO + "((((((a))))));"));
        due(1002, wrongAt(TWO + "(not(not(not a))) or ((((((a or a)))))) and not(not(not(a)));"));
        due(at + 24, wrongAt(TWO + "not not not not not not not a;"));
        due(at + 6, wrongAt(TWO + "(((((((a)))))));"));
        due(at + 12, wrongAt(TWO + "not(not(not((a))));"));
        due(at + 16, wrongAt(TWO + "((((((a and a or(a)))))));"));
    }

    private static void errors() {
        says("The error position is the index of the first byte of the first token that cannot stand where it stands;");
        due(16, wrongAt("form 14 14 1;   yes no"));
        due(13, wrongAt("form 14 14 1;} } #"));
        due(5, wrongAt("form 7 7 7;"));
        says("it is the length of the text if the text ends too early.");
        due(0, wrongAt(""));
        due(1, wrongAt("\n"));
        due(4, wrongAt("form"));
        due(13, wrongAt("form 14 14 1 "));
        due(1200, wrongAt("form 14 14 1" + " ".repeat(1188)));
        FormDesigner x = form(SAMPLE);
        due(-1, insert(x, 0, "yesno z  "));
        due(9, x.errorPosition());
        due(-1, condition(x, 0, "not  "));
        due(5, x.errorPosition());
        says("The following tokens cannot stand, either: an INT out of range (also a highest value below the lowest one);");
        due(25, wrongAt("form 14 14 1;number 9999 9998 a width 1;"));
        due(22, wrongAt("form 14 14 1;number 1 0000 a width 1;"));
        due(30, wrongAt("form 14 14 1;choice 9 a width 11;"));
        due(1002, wrongAt(TWO + "a = 9999;"));
        says("the NAME of a node that another node of the form has;");
        due(-1, insert(x, 0, "yesno pet width 1;"));
        due(6, x.errorPosition());
        due(-1, insert(x, 0, "group g{group animal{}}"));
        due(14, x.errorPosition());
        due(-1, insert(x, 0, "yesno z width 1;yesno z width 1;"));
        due(22, x.errorPosition());
        due(1, load(x, "form 14 14 1;yesno pet width 1;"));
        says("the first keyword of a 25th field or of a ninth group (counting all numbers given since the form was loaded), or of a group that would lie too deep;");
        String full = "form 14 14 1;" + fields(0, 24) + groups(0, 8);
        for (String more : new String[] {"yesno", "number", "choice", "group", "yesno 1", "choice 1", "number 5 4", "group 1"}) {
            due(full.length(), wrongAt(full + more));
        }
        x = form("form 14 14 1;" + fields(0, 24) + groups(0, 8));
        x.remove(0);
        x.remove(24);
        due(-1, insert(x, -2, " choice #"));
        due(1, x.errorPosition());
        due(-1, insert(x, -2, " group #"));
        due(1, x.errorPosition());
        x = form("form 14 14 1;group a{group b{group c{group d{}}}}");
        due(-1, insert(x, 3, "yesno z width 1; group #"));
        due(17, x.errorPosition());
        says("a \"not\" or a \"(\" within 6 others.");
        due(-1, condition(x, 24, "((((((("));
        due(6, x.errorPosition());
        due(-1, condition(x, 24, "(((((( not"));
        due(7, x.errorPosition());
        due(-1, condition(x, 24, "(((((("));
        due(6, x.errorPosition());
        due(-1, condition(x, 24, "(((((( z"));
        due(8, x.errorPosition());
    }

    private static void namesAndCircles() {
        says("If there is no such token: the first NAME in a condition that is not the name of a field;");
        int at = TWO.length();
        due(at + 5, wrongAt(TWO + "b or x or y;"));
        due(at, wrongAt(TWO + "g;group g{}"));
        due(at + 2, wrongAt(TWO + "x;}"));
        due(at, wrongAt(TWO + "width1;"));
        due(at + 10, wrongAt(TWO + "x;group y{"));
        due(1003, wrongAt(TWO + "x;yesno x width 1;"));
        due(32, wrongAt("form 14 14 1;yesno a width 1 if x;yesno b width 1 if y;"));
        says("if there is none either: the first NAME in a condition with which, together with all conditions before it (and with those of nodes that exist already), a field would depend on itself.");
        due(at, wrongAt(TWO + "b;"));
        due(at + 5, wrongAt(TWO + "a or b or b;"));
        String late = "form 14 14 1;yesno a width 1 if b or c;yesno b width 1 if c;yesno c width 1 if d or a or b;yesno d width 1 if d;";
        due(late.indexOf("a or b;"), wrongAt(late));
        // The condition of a group counts for the fields that come in it, and for what they depend on.
        String group = "form 14 14 1;yesno a width 1 if b;group g if c or a{group h{yesno b width 1;}}yesno c width 1;";
        due(group.indexOf("a{"), wrongAt(group));
        String inner = "form 14 14 1;group g if a{yesno b width 1 if c;yesno c width 1 if a or b;}yesno a width 1;";
        due(inner.indexOf("b;}"), wrongAt(inner));
        FormDesigner x = form("form 14 14 1;yesno a width 1 if b;yesno b width 1;group g if a{}");
        due(-1, insert(x, 0, "yesno c width 1 if a or c;"));
        due(24, x.errorPosition());
        due(-1, condition(x, 1, "b or a"));
        due(0, x.errorPosition());
        due(-1, condition(x, 1, "a"));
        due(0, x.errorPosition());
        due(1, insert(x, 0, "yesno c width 1 if b;"));
        due(-1, condition(x, 1, "c"));
        due(0, x.errorPosition());
        // The condition that a node has is not counted when it gets another one.
        due(1, condition(x, 24, "b"));
        due(0, condition(x, 0, ""));
        due(1, condition(x, 0, "c"));
        due(1, condition(x, 0, "c"));
        due(0, condition(x, 0, ""));
        due(1, condition(x, 1, "a"));
        due(-2, x.errorPosition());
    }

    // ---- 6. Calls

    private static void nodeArguments() {
        says("A node argument is valid if the node exists in the form that is asked about (in the draft, if not told otherwise).");
        FormDesigner x = sheet(SAMPLE);
        x.remove(2);
        insert(x, -2, "yesno z width 1;group h{}");
        x.publish();
        x.begin();
        due(-1, x.node(2, 0));
        due(2, x.node(5, 0));
        due(3, x.node(25, 0));
        due(true, x.exists(0, 2));
        due(false, x.exists(1, 2));
        due(false, x.exists(0, 5));
        due(false, x.exists(0, 25));
        due(true, x.exists(1, 25));
        due(-2, x.answer(0, 2, -2));
        due(-1, x.answer(0, 5, 0));
        due(-1, x.answer(1, 2, -2));
        due(0, x.answer(1, 5, 0));
        due(-2, x.inForce(1, 0, 2));
        due(-1, x.inForce(1, 1, 2));
        due(-1, x.inForce(1, 0, 5));
        due(0, x.inForce(1, 1, 5));
        due(false, x.isShown(0, 0, 25));
        due(true, x.isShown(0, 1, 25));
        due("-1,-1", at(x, false, 0, 25));
        due("-1,-1", at(x, true, 0, 25));
        due("-1,-1", at(x, true, 1, 2));
        due("3,0", at(x, true, 1, 3));
        for (int node : new int[] {6, 23, 26, 31, 32, 33, -1, -2, -24, MAX, MIN}) {
            due(-1, x.node(node, 0));
            due(-1, x.letter(node, 0));
            due(-1, x.remove(node));
            due(-1, x.setCondition(node));
            due(false, x.rename(node, letters("q")));
            due(false, x.move(node, -2, 0));
            due(false, x.exists(1, node));
            due(false, x.isShown(1, 1, node));
            due("-1,-1", at(x, true, 1, node));
            due(false, x.wouldRefuse(node, 0));
        }
        // A group is no field.
        due(-1, x.setKind(24, 2, 0, 1));
        due(-1, x.dependsOn(24));
        due(-1, x.dependents(25));
        due(false, x.wouldRefuse(0, 24));
        due(-1, x.answer(0, 24, 0));
        due(-1, x.inForce(0, 0, 24));
    }

    private static void otherArguments() {
        says("A group argument is the number of a group (from 0, not a node argument), which is valid if the draft has that group, or NOT_FOUND, which means the form itself;");
        FormDesigner x = sheet("form 14 14 1;group g{}yesno a width 1;group h{}");
        x.remove(24);
        due(-1, x.insert(0));
        due(-2, x.insert(1));
        due(-2, x.insert(-2));
        due(true, x.move(0, 1, 0));
        due(false, x.move(0, 0, 0));
        due(true, x.move(0, -2, 0));
        for (int group : new int[] {2, 7, 8, 24, 25, 26, 32, -1, -3, MAX, MIN}) {
            due(-1, x.insert(group));
            due(false, x.move(0, group, 0));
        }
        says("groups are told like this, too.");
        due(-2, x.node(0, 4));
        due(-2, x.node(25, 4));
        x.move(0, 1, 0);
        due(1, x.node(0, 4));
        says("Sheet and revision arguments are valid if there is one of that number.");
        x = new FormDesigner();
        for (int round = 0; round < 3; round++) {
            for (int wrong : new int[] {round, round + 1, 8, 10, -1, -2, MAX, MIN}) {
                due(false, x.exists(wrong, 0));
                due(-1, x.pages(wrong));
                due(-1, x.rows(true, wrong));
                due(-1, x.rows(false, wrong));
                due(-1, x.revisionOf(wrong));
                due(-1, x.answers(wrong));
                due(-1, x.advance(wrong));
                due(-1, x.open(wrong));
                due(-1f, x.completeness(wrong));
                due(-1, x.answer(wrong, 0, 1));
                due(-1, x.inForce(wrong, 0, 0));
                due(-1, x.inForce(0, wrong, 0));
            }
            insert(x, -2, "yesno " + (char) ('a' + round) + " width 1;");
            due(round, x.publish());
            due(round, x.begin());
            due(true, x.exists(round, 0));
            due(1, x.rows(true, round));
            due(1, x.rows(false, round));
            due(round, x.revisionOf(round));
            due(-2, x.inForce(round, round, 0));
        }
        // One that is undone is there no more.
        x.undo();
        due(-1, x.revisionOf(2));
        due(1, x.pages(2));
        x.undo();
        due(-1, x.pages(2));
    }

    private static void changesNothing() {
        says("A call with an invalid argument returns INVALID (or false) and changes nothing;");
        FormDesigner x = sheet(SAMPLE);
        x.answer(0, 0, 1);
        x.remove(2);
        x.publish();
        condition(x, 3, "pet #");
        put(x, "pet");
        String before = picture(x);
        for (int wrong : new int[] {2, 23, 25, 32, -1, -3, MAX, MIN}) {
            due(-1, x.insert(wrong));
            due(-1, x.setCondition(wrong));
            due(false, x.rename(wrong, letters("q")));
            due(false, x.rename(0, wrong < 0 ? wrong : 27 << 25));
            due(-1, x.remove(wrong));
            due(false, x.move(wrong, 0, 0));
            due(false, x.move(0, wrong, 0));
            due(false, x.move(0, 0, wrong));
            due(-1, x.setKind(wrong, 2, 0, 1));
            due(-1, x.setKind(0, wrong, wrong, wrong));
            due(-1, x.answer(wrong, 0, 0));
            due(-1, x.answer(0, wrong == 2 ? 5 : wrong, 0));
            due(-1, x.answer(0, 0, wrong));
            due(-1, x.advance(wrong));
            due(-1, x.truncate(wrong < 4 ? wrong == 2 ? 4 : Math.min(wrong, -1) : wrong));
        }
        due(before, picture(x));
        due(3, x.tapeLength());
        due(4, x.errorPosition());
        due(4, x.undo());
        due(3, x.undo());
        due(5, x.value(3));
    }

    private static void checkedFirst() {
        says("this is checked before any other special result.");
        FormDesigner x = sheet(SAMPLE);
        // The text has no node, the field is not shown, the sheet is the latest, and so on: yet the argument is invalid.
        due(-1, x.insert(1));
        due(-1, x.setKind(0, 2, 0, 2));
        due(-1, x.answer(0, 1, 3));
        due(-1, x.answer(0, 2, 41));
        due(-2, x.answer(0, 2, 40));
        due(-2, x.answer(0, 1, -2));
        due(-1, x.answer(0, 25, -2));
        due(-1, x.advance(1));
        due(-2, x.advance(0));
        due(-1, x.letter(5, 8));
        due(-1, x.letter(0, -1));
        due(-1, x.nodeAt(-1));
        due(-1, x.inOrder(-1));
        due(-1, x.place(false, 0, 5, true));
        due(-2, x.place(false, 0, 1, true));
        due(-1, x.inForce(0, 0, 5));
        due(-1, x.textByte(false, 1, MAX));
        due(-1, x.textByte(false, 0, -1));
        due(-2, x.textByte(false, 0, MAX));
        due(-1, x.setupByte(-1));
        due(-1, x.named(1));
        due(-1, x.remove(25));
        FormDesigner empty = new FormDesigner();
        due(-1, empty.nodeAt(-1));
        due(-1, empty.inOrder(-1));
        due(-1, empty.advance(0));
        due(-1, empty.letter(0, 0));
        due(-1, empty.insert(0));
    }

    private static void operations() {
        says("Operations are the successful calls of insert(), setCondition(), rename(), remove(), move(), setKind(), publish(), begin(), answer() and advance().");
        FormDesigner x = sheet(SAMPLE);
        String[] pictures = new String[11];
        for (int i = 0; i < 10; i++) {
            pictures[i] = picture(x);
            operate(x, i);
        }
        for (int i = 9; i >= 0; i--) {
            due(i, x.undo());
            due(pictures[i], picture(x));
        }
        due(-1, x.undo());
        // What is refused is none, and no other call is one.
        x = form(SAMPLE);
        x.insert(-2);
        insert(x, -2, "yesno");
        condition(x, 3, "rest");
        x.rename(0, letters("if"));
        x.remove(0);
        x.move(0, -2, 0);
        x.setKind(0, 2, 0, 1);
        x.begin();
        x.answer(0, 0, 0);
        x.advance(0);
        x.append(1, 2, 3, 4, 5);
        x.truncate(3);
        x.setupByte(3);
        due(-1, x.load());
        due(-1, x.undo());
        x.publish();
        x.begin();
        x.answer(0, 0, -2);
        x.answer(0, 0, 2);
        x.answer(0, 1, 1);
        x.advance(0);
        due(1, x.undo());
        due(0, x.undo());
        due(-1, x.undo());
    }

    private static void operate(FormDesigner x, int i) {
        switch (i) {
            case 0: due(1, insert(x, 0, "yesno z width 1;group h{}")); break;
            case 1: due(1, condition(x, 5, "pet")); break;
            case 2: due(true, x.rename(5, letters("y"))); break;
            case 3: due(1, x.remove(2)); break;
            case 4: due(true, x.move(25, -2, 0)); break;
            case 5: due(1, x.setKind(1, 2, 0, 1)); break;
            case 6: due(3, x.answer(0, 0, 1)); break;
            case 7: due(1, x.publish()); break;
            case 8: due(0, x.advance(0)); break;
            default: due(1, x.begin());
        }
    }

    private static void latestTen() {
        says("The latest 10 of them can be undone.");
        FormDesigner x = form("form 14 14 1;yesno a width 1;");
        for (int i = 0; i < 26; i++) {
            due(true, x.rename(0, letters("n" + (char) ('a' + i))));
        }
        for (int left = 9; left >= 0; left--) {
            due(left, x.undo());
        }
        due("np", name(x, 0));
        due(-1, x.undo());
        due("np", name(x, 0));
        // Those before the ten are never undone, and what comes after counts anew.
        due(true, x.rename(0, letters("q")));
        due(0, x.undo());
        due(-1, x.undo());
        for (int i = 0; i < 11; i++) {
            x.rename(0, letters("m" + (char) ('a' + i)));
            x.undo();
            due(true, x.rename(0, letters("o" + (char) ('a' + i))));
        }
        due(9, x.undo());
        due("oj", name(x, 0));
        for (int left = 8; left >= 0; left--) {
            due(left, x.undo());
        }
        due("oa", name(x, 0));
        due(-1, x.undo());
    }

    private static void constants() {
        says("The constants: - `INVALID = -1`: Result of a call with an invalid argument.");
        due(-1, FormDesigner.INVALID);
        due(FormDesigner.INVALID, new FormDesigner().value(10));
        says("- `NOT_FOUND = -2`: Result of a call that finds nothing or is not possible.");
        due(-2, FormDesigner.NOT_FOUND);
        due(FormDesigner.NOT_FOUND, new FormDesigner().nodeAt(0));
        due(FormDesigner.NOT_FOUND, new FormDesigner().begin());
        says("The constructor and the methods follow, a promise each: the signature, then what it does.");
        due(1, FormDesigner.class.getConstructors().length);
        int methods = 0;
        for (Method method : FormDesigner.class.getDeclaredMethods()) {
            methods += Modifier.isPublic(method.getModifiers()) ? 1 : 0;
        }
        due(41, methods);
    }
}
