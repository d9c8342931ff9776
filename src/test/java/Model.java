import java.util.ArrayList;
import java.util.HashMap;
import java.util.HashSet;
import java.util.List;
import java.util.Map;
import java.util.Set;
import java.util.TreeMap;

/**
 * The document once more, as plainly as can be: a tree of objects that is copied whole, texts as
 * Strings, and everything worked out anew by its definition. ModelRuns compares FormDesigner to it.
 */
final class Model {
    static final int INVALID = -1;
    static final int NOT_FOUND = -2;
    static final Set<String> KEYWORDS = Set.of(
            "form", "group", "if", "width", "number", "choice", "yesno", "or", "and", "not");

    /** A condition: op is "or", "and", "not" or "test". */
    static final class Cond {
        String op;
        List<Cond> parts = new ArrayList<>();
        String name;
        int pos;
        int field = -1;
        char sign;
        int number;

        Cond(String op) {
            this.op = op;
        }

        void collect(List<Cond> tests) {
            if (op.equals("test")) {
                tests.add(this);
            }
            for (Cond part : parts) {
                part.collect(tests);
            }
        }

        List<Cond> tests() {
            List<Cond> tests = new ArrayList<>();
            collect(tests);
            return tests;
        }
    }

    static final class Item {
        int id;
        String name;
        int kind;
        int low;
        int high;
        int width;
        Cond cond;
        Item parent;
        List<Item> kids = new ArrayList<>();

        boolean isGroup() {
            return id >= 24;
        }

        int around() {
            return parent == null || parent.id < 0 ? 0 : 1 + parent.around();
        }

        void list(List<Item> all) {
            if (id >= 0) {
                all.add(this);
            }
            for (Item kid : kids) {
                kid.list(all);
            }
        }
    }

    static final class Form {
        int screen = 40;
        int print = 40;
        int page = 20;
        int fieldsGiven;
        int groupsGiven;
        Item root = new Item();

        Form() {
            root.id = -5;
        }

        List<Item> all() {
            List<Item> all = new ArrayList<>();
            root.list(all);
            return all;
        }

        Item get(int id) {
            for (Item item : all()) {
                if (item.id == id) {
                    return item;
                }
            }
            return null;
        }

        Item named(String name) {
            for (Item item : all()) {
                if (item.name.equals(name)) {
                    return item;
                }
            }
            return null;
        }

        List<Item> fields() {
            List<Item> fields = new ArrayList<>();
            for (int id = 0; id < 24; id++) {
                if (get(id) != null) {
                    fields.add(get(id));
                }
            }
            return fields;
        }

        Form copy() {
            Form copy = new Form();
            copy.screen = screen;
            copy.print = print;
            copy.page = page;
            copy.fieldsGiven = fieldsGiven;
            copy.groupsGiven = groupsGiven;
            copyKids(root, copy.root);
            return copy;
        }

        static void copyKids(Item from, Item to) {
            for (Item kid : from.kids) {
                Item copy = new Item();
                copy.id = kid.id;
                copy.name = kid.name;
                copy.kind = kid.kind;
                copy.low = kid.low;
                copy.high = kid.high;
                copy.width = kid.width;
                copy.cond = kid.cond;
                copy.parent = to;
                to.kids.add(copy);
                copyKids(kid, copy);
            }
        }

        /** Direct dependences of the fields, with only some of the tests of some nodes. */
        Map<Integer, Set<Integer>> graph(Map<Integer, Set<Integer>> refs) {
            Map<Integer, Set<Integer>> graph = new HashMap<>();
            for (Item field : fields()) {
                Set<Integer> on = new HashSet<>();
                for (Item item = field; item != null && item.id >= 0; item = item.parent) {
                    on.addAll(refs.getOrDefault(item.id, Set.of()));
                }
                graph.put(field.id, on);
            }
            return graph;
        }

        Map<Integer, Set<Integer>> refs() {
            Map<Integer, Set<Integer>> refs = new HashMap<>();
            for (Item item : all()) {
                Set<Integer> on = new HashSet<>();
                if (item.cond != null) {
                    for (Cond test : item.cond.tests()) {
                        on.add(test.field);
                    }
                }
                refs.put(item.id, on);
            }
            return refs;
        }
    }

    static Set<Integer> reach(Map<Integer, Set<Integer>> graph, int from) {
        Set<Integer> seen = new HashSet<>();
        List<Integer> open = new ArrayList<>(graph.getOrDefault(from, Set.of()));
        while (!open.isEmpty()) {
            int next = open.remove(open.size() - 1);
            if (seen.add(next)) {
                open.addAll(graph.getOrDefault(next, Set.of()));
            }
        }
        return seen;
    }

    static boolean circular(Map<Integer, Set<Integer>> graph) {
        for (int field : graph.keySet()) {
            if (reach(graph, field).contains(field)) {
                return true;
            }
        }
        return false;
    }

    static final class Sheet {
        int revision;
        TreeMap<Integer, Integer> given = new TreeMap<>();
    }

    static final class Past {
        Form draft;
        List<Form> revisions;
        List<Sheet> sheets;
    }

    StringBuilder tape = new StringBuilder();
    int error = NOT_FOUND;
    Form draft = new Form();
    List<Form> revisions = new ArrayList<>();
    List<Sheet> sheets = new ArrayList<>();
    List<Past> past = new ArrayList<>();

    void operation() {
        Past now = new Past();
        now.draft = draft.copy();
        now.revisions = new ArrayList<>(revisions);
        now.sheets = new ArrayList<>();
        for (Sheet sheet : sheets) {
            Sheet copy = new Sheet();
            copy.revision = sheet.revision;
            copy.given.putAll(sheet.given);
            now.sheets.add(copy);
        }
        past.add(now);
        while (past.size() > 10) {
            past.remove(0);
        }
    }

    // ---- texts

    static final class Wrong extends RuntimeException {
        private static final long serialVersionUID = 1;
        final int pos;

        Wrong(int pos) {
            super(null, null, false, false);
            this.pos = pos;
        }
    }

    static final class Token {
        String text;
        int pos;
        char type;
    }

    final class Reader {
        final String text = tape.toString();
        int at;
        Form form;
        List<Cond> tests = new ArrayList<>();
        List<Integer> owners = new ArrayList<>();

        Token peek() {
            int i = at;
            while (i < text.length() && (text.charAt(i) == ' ' || text.charAt(i) == '\n')) {
                i++;
            }
            Token token = new Token();
            token.pos = i;
            if (i == text.length()) {
                token.type = '$';
                token.text = "";
                return token;
            }
            int end = i;
            while (end < text.length() && text.charAt(end) >= 'a' && text.charAt(end) <= 'z') {
                end++;
            }
            if (end > i) {
                token.text = text.substring(i, end);
                token.type = KEYWORDS.contains(token.text) ? 'k' : end - i <= 8 ? 'n' : '?';
                return token;
            }
            while (end < text.length() && text.charAt(end) >= '0' && text.charAt(end) <= '9') {
                end++;
            }
            if (end > i) {
                token.text = text.substring(i, end);
                token.type = end - i <= 4 ? 'i' : '?';
                return token;
            }
            token.text = text.substring(i, i + 1);
            token.type = ";{}()=<>".contains(token.text) ? 's' : '?';
            return token;
        }

        boolean sees(String word) {
            Token token = peek();
            return (token.type == 'k' || token.type == 's') && token.text.equals(word);
        }

        void eat(String word) {
            if (!sees(word)) {
                throw new Wrong(peek().pos);
            }
            skip();
        }

        void skip() {
            Token token = peek();
            at = token.pos + token.text.length();
        }

        int number(int low, int high) {
            Token token = peek();
            if (token.type != 'i') {
                throw new Wrong(token.pos);
            }
            int number = Integer.parseInt(token.text);
            if (number < low || number > high) {
                throw new Wrong(token.pos);
            }
            skip();
            return number;
        }

        void nodes(Item into) {
            while (true) {
                Token token = peek();
                if (sees("group")) {
                    if (form.groupsGiven == 8 || (into.id < 0 ? 0 : into.around() + 1) == 4) {
                        throw new Wrong(token.pos);
                    }
                    skip();
                    Item group = add(into, 24 + form.groupsGiven++);
                    group.kind = 3;
                    condition(group);
                    eat("{");
                    nodes(group);
                    eat("}");
                } else if (sees("number") || sees("choice") || sees("yesno")) {
                    if (form.fieldsGiven == 24) {
                        throw new Wrong(token.pos);
                    }
                    skip();
                    int low = 0;
                    int high = 1;
                    if (token.text.equals("number")) {
                        low = number(0, 9999);
                        high = number(low, 9999);
                    } else if (token.text.equals("choice")) {
                        high = number(2, 9) - 1;
                    }
                    Item field = add(into, form.fieldsGiven++);
                    field.kind = token.text.equals("number") ? 0 : token.text.equals("choice") ? 1 : 2;
                    field.low = low;
                    field.high = high;
                    eat("width");
                    field.width = number(1, 10);
                    condition(field);
                    eat(";");
                } else {
                    return;
                }
            }
        }

        Item add(Item into, int id) {
            Token token = peek();
            if (token.type != 'n' || form.named(token.text) != null) {
                throw new Wrong(token.pos);
            }
            skip();
            Item item = new Item();
            item.id = id;
            item.name = token.text;
            item.parent = into;
            into.kids.add(item);
            return item;
        }

        void condition(Item item) {
            if (sees("if")) {
                skip();
                item.cond = or(0, item.id);
            }
        }

        Cond or(int nest, int owner) {
            Cond or = new Cond("or");
            or.parts.add(and(nest, owner));
            while (sees("or")) {
                skip();
                or.parts.add(and(nest, owner));
            }
            return or;
        }

        Cond and(int nest, int owner) {
            Cond and = new Cond("and");
            and.parts.add(test(nest, owner));
            while (sees("and")) {
                skip();
                and.parts.add(test(nest, owner));
            }
            return and;
        }

        Cond test(int nest, int owner) {
            Token token = peek();
            if (sees("not") || sees("(")) {
                if (nest == 6) {
                    throw new Wrong(token.pos);
                }
                skip();
                if (token.text.equals("(")) {
                    Cond inner = or(nest + 1, owner);
                    eat(")");
                    return inner;
                }
                Cond not = new Cond("not");
                not.parts.add(test(nest + 1, owner));
                return not;
            }
            if (token.type != 'n') {
                throw new Wrong(token.pos);
            }
            skip();
            Cond test = new Cond("test");
            test.name = token.text;
            test.pos = token.pos;
            if (sees("=") || sees("<") || sees(">")) {
                test.sign = peek().text.charAt(0);
                skip();
                test.number = number(0, 9999);
            }
            tests.add(test);
            owners.add(owner);
            return test;
        }

        void end() {
            if (peek().type != '$') {
                throw new Wrong(peek().pos);
            }
        }

        void settle() {
            for (Cond test : tests) {
                Item named = form.named(test.name);
                if (named == null || named.isGroup()) {
                    throw new Wrong(test.pos);
                }
                test.field = named.id;
            }
            for (int upTo = 0; upTo < tests.size(); upTo++) {
                Map<Integer, Set<Integer>> refs = form.refs();
                for (int owner : owners) {
                    refs.put(owner, new HashSet<>());
                }
                for (int i = 0; i <= upTo; i++) {
                    refs.get(owners.get(i)).add(tests.get(i).field);
                }
                if (circular(form.graph(refs))) {
                    throw new Wrong(tests.get(upTo).pos);
                }
            }
        }
    }

    int append(int a, int b, int c, int d, int e) {
        if (tape.length() + 20 > 1200) {
            return INVALID;
        }
        for (int word : new int[] {a, b, c, d, e}) {
            tape.append((char) (word >>> 24)).append((char) (word >>> 16 & 255));
            tape.append((char) (word >>> 8 & 255)).append((char) (word & 255));
        }
        return tape.length();
    }

    int truncate(int n) {
        if (n < 0 || n > tape.length()) {
            return INVALID;
        }
        tape.setLength(tape.length() - n);
        return tape.length();
    }

    int load() {
        Reader reader = new Reader();
        tape.setLength(0);
        error = NOT_FOUND;
        try {
            reader.form = new Form();
            reader.eat("form");
            reader.form.screen = reader.number(14, 60);
            reader.form.print = reader.number(14, 60);
            reader.form.page = reader.number(1, 60);
            reader.eat(";");
            reader.nodes(reader.form.root);
            reader.end();
            reader.settle();
        } catch (Wrong wrong) {
            error = wrong.pos;
            return INVALID;
        }
        draft = reader.form;
        revisions.clear();
        sheets.clear();
        past.clear();
        return draft.fields().size();
    }

    Item group(Form form, int group) {
        return group == NOT_FOUND ? form.root : group >= 0 && group < 8 ? form.get(24 + group) : null;
    }

    int insert(int group) {
        if (group(draft, group) == null) {
            return INVALID;
        }
        Reader reader = new Reader();
        tape.setLength(0);
        error = NOT_FOUND;
        try {
            reader.form = draft.copy();
            reader.nodes(group(reader.form, group));
            reader.end();
            reader.settle();
        } catch (Wrong wrong) {
            error = wrong.pos;
            return INVALID;
        }
        if (reader.form.all().size() == draft.all().size()) {
            return NOT_FOUND;
        }
        operation();
        int added = reader.form.fields().size() - draft.fields().size();
        draft = reader.form;
        return added;
    }

    int setCondition(int node) {
        if (draft.get(node) == null) {
            return INVALID;
        }
        Reader reader = new Reader();
        tape.setLength(0);
        error = NOT_FOUND;
        Form changed = draft.copy();
        try {
            reader.form = changed;
            changed.get(node).cond = reader.peek().type == '$' ? null : reader.or(0, node);
            reader.end();
            reader.settle();
        } catch (Wrong wrong) {
            error = wrong.pos;
            return INVALID;
        }
        operation();
        draft = changed;
        return reader.tests.size();
    }

    int errorPosition() {
        return error;
    }

    // ---- the draft

    static String name(int letters) {
        StringBuilder name = new StringBuilder();
        if (letters >>> 30 != 0) {
            return null;
        }
        for (int i = 0; i < 6; i++) {
            int code = letters >>> (25 - 5 * i) & 31;
            name.append(code == 0 ? '.' : code > 26 ? '!' : (char) (96 + code));
        }
        String text = name.toString();
        return text.matches("[a-z]+\\.*") ? text.replace(".", "") : null;
    }

    boolean rename(int node, int letters) {
        String name = name(letters);
        if (draft.get(node) == null || name == null || KEYWORDS.contains(name) || draft.named(name) != null) {
            return false;
        }
        operation();
        draft.get(node).name = name;
        return true;
    }

    int remove(int node) {
        Item item = draft.get(node);
        if (item == null) {
            return INVALID;
        }
        Form left = draft.copy();
        List<Item> gone = new ArrayList<>();
        Item taken = left.get(node);
        taken.list(gone);
        taken.parent.kids.remove(taken);
        int fields = 0;
        for (Item one : gone) {
            fields += one.isGroup() ? 0 : 1;
            for (Item other : left.all()) {
                if (left.refs().get(other.id).contains(one.id)) {
                    return NOT_FOUND;
                }
            }
        }
        operation();
        draft = left;
        return fields;
    }

    boolean move(int node, int group, int index) {
        if (draft.get(node) == null || group(draft, group) == null) {
            return false;
        }
        Form moved = draft.copy();
        Item item = moved.get(node);
        Item into = group(moved, group);
        for (Item up = into; up != null; up = up.parent) {
            if (up == item) {
                return false;
            }
        }
        int before = item.parent.kids.indexOf(item);
        Item from = item.parent;
        from.kids.remove(item);
        if (index < 0 || index > into.kids.size() || (from == into && before == index)) {
            return false;
        }
        into.kids.add(index, item);
        item.parent = into;
        for (Item one : moved.all()) {
            if (one.isGroup() && one.around() + 1 > 4) {
                return false;
            }
        }
        if (circular(moved.graph(moved.refs()))) {
            return false;
        }
        operation();
        draft = moved;
        return true;
    }

    Item field(Form form, int field) {
        return field >= 0 && field < 24 ? form.get(field) : null;
    }

    int setKind(int field, int kind, int low, int high) {
        Item item = field(draft, field);
        boolean right = kind == 0 && low >= 0 && low <= high && high <= 9999
                || kind == 1 && low == 0 && high >= 2 && high <= 9
                || kind == 2 && low == 0 && high == 1;
        if (item == null || !right) {
            return INVALID;
        }
        int highest = kind == 1 ? high - 1 : high;
        int previous = item.kind;
        if (previous == kind && item.low == low && item.high == highest) {
            return NOT_FOUND;
        }
        operation();
        item.kind = kind;
        item.low = low;
        item.high = highest;
        return previous;
    }

    int publish() {
        if (revisions.size() == 8) {
            return NOT_FOUND;
        }
        operation();
        revisions.add(draft.copy());
        return revisions.size() - 1;
    }

    // ---- sheets

    int begin() {
        if (revisions.isEmpty() || sheets.size() == 10) {
            return NOT_FOUND;
        }
        operation();
        Sheet sheet = new Sheet();
        sheet.revision = revisions.size() - 1;
        sheets.add(sheet);
        return sheets.size() - 1;
    }

    Sheet sheet(int sheet) {
        return sheet >= 0 && sheet < sheets.size() ? sheets.get(sheet) : null;
    }

    Form revision(int revision) {
        return revision >= 0 && revision < revisions.size() ? revisions.get(revision) : null;
    }

    Set<Integer> shown(Form form, Sheet sheet) {
        Set<Integer> shown = new HashSet<>();
        for (Item item : form.all()) {
            if (shown(form, sheet, item)) {
                shown.add(item.id);
            }
        }
        return shown;
    }

    final Map<String, Integer> known = new HashMap<>();

    boolean shown(Form form, Sheet sheet, Item item) {
        known.clear();
        return shows(form, sheet, item);
    }

    boolean shows(Form form, Sheet sheet, Item item) {
        return item.id < 0 || shows(form, sheet, item.parent) && (item.cond == null || holds(form, sheet, item.cond));
    }

    int force(Form form, Sheet sheet, int field) {
        known.clear();
        return forces(form, sheet, field);
    }

    int forces(Form form, Sheet sheet, int field) {
        Integer before = known.get("" + field);
        if (before != null) {
            return before;
        }
        Item item = field(form, field);
        Integer value = sheet.given.get(field);
        int result = NOT_FOUND;
        if (item != null && value != null && value >= item.low && value <= item.high && shows(form, sheet, item)) {
            result = value;
        }
        known.put("" + field, result);
        return result;
    }

    boolean holds(Form form, Sheet sheet, Cond cond) {
        boolean all = true;
        boolean any = false;
        for (Cond part : cond.parts) {
            boolean holds = holds(form, sheet, part);
            all &= holds;
            any |= holds;
        }
        if (cond.op.equals("or")) {
            return any;
        }
        if (cond.op.equals("and")) {
            return all;
        }
        if (cond.op.equals("not")) {
            return !any;
        }
        int value = forces(form, sheet, cond.field);
        if (value == NOT_FOUND) {
            return false;
        }
        return cond.sign == '=' ? value == cond.number : cond.sign == '<' ? value < cond.number
                : cond.sign == '>' ? value > cond.number : value != 0;
    }

    int answer(int sheet, int field, int value) {
        Sheet s = sheet(sheet);
        if (s == null) {
            return INVALID;
        }
        Form form = revision(s.revision);
        Item item = field(form, field);
        if (item == null || value != NOT_FOUND && (value < item.low || value > item.high)) {
            return INVALID;
        }
        if (!shown(form, s, item) || s.given.getOrDefault(field, NOT_FOUND) == value) {
            return NOT_FOUND;
        }
        Set<Integer> before = shown(form, s);
        operation();
        if (value == NOT_FOUND) {
            s.given.remove(field);
        } else {
            s.given.put(field, value);
        }
        Set<Integer> after = shown(form, s);
        int changes = 0;
        for (Item one : form.all()) {
            changes += before.contains(one.id) != after.contains(one.id) ? 1 : 0;
        }
        return changes;
    }

    int advance(int sheet) {
        Sheet s = sheet(sheet);
        if (s == null) {
            return INVALID;
        }
        if (s.revision == revisions.size() - 1) {
            return NOT_FOUND;
        }
        operation();
        s.revision = revisions.size() - 1;
        int before = s.given.size();
        s.given.keySet().removeIf(field -> revision(s.revision).get(field) == null);
        return before - s.given.size();
    }

    int undo() {
        if (past.isEmpty()) {
            return INVALID;
        }
        Past last = past.remove(past.size() - 1);
        draft = last.draft;
        revisions = last.revisions;
        sheets = last.sheets;
        return past.size();
    }

    // ---- nodes

    int value(int what) {
        int conditions = 0;
        for (Item item : draft.all()) {
            conditions += item.cond == null ? 0 : 1;
        }
        int[] values = {draft.screen, draft.print, draft.page, draft.fields().size(),
            draft.all().size() - draft.fields().size(), revisions.size(), sheets.size(),
            draft.fieldsGiven, draft.groupsGiven, conditions};
        return what >= 0 && what < values.length ? values[what] : INVALID;
    }

    int node(int node, int what) {
        Item item = draft.get(node);
        if (item == null) {
            return INVALID;
        }
        int[] values = {item.kind, item.low, item.high, item.width,
            item.parent.id < 0 ? NOT_FOUND : item.parent.id - 24, item.parent.kids.indexOf(item),
            item.around(), item.cond == null ? 0 : item.cond.tests().size(), item.kids.size()};
        return what >= 0 && what < values.length ? values[what] : INVALID;
    }

    int letter(int node, int i) {
        Item item = draft.get(node);
        if (item == null || i < 0) {
            return INVALID;
        }
        return i < item.name.length() ? item.name.charAt(i) : NOT_FOUND;
    }

    int named(int letters) {
        String name = name(letters);
        if (name == null) {
            return INVALID;
        }
        return draft.named(name) == null ? NOT_FOUND : draft.named(name).id;
    }

    int nodeAt(int i) {
        return i < 0 ? INVALID : i < draft.all().size() ? draft.all().get(i).id : NOT_FOUND;
    }

    static int mask(Set<Integer> set) {
        int mask = 0;
        for (int field : set) {
            mask |= 1 << field;
        }
        return mask;
    }

    int dependsOn(int field) {
        return field(draft, field) == null ? INVALID : mask(draft.graph(draft.refs()).get(field));
    }

    int dependents(int field) {
        if (field(draft, field) == null) {
            return INVALID;
        }
        Map<Integer, Set<Integer>> graph = draft.graph(draft.refs());
        Set<Integer> set = new HashSet<>();
        for (int other : graph.keySet()) {
            if (reach(graph, other).contains(field)) {
                set.add(other);
            }
        }
        return mask(set);
    }

    int inOrder(int i) {
        if (i < 0) {
            return INVALID;
        }
        Map<Integer, Set<Integer>> graph = draft.graph(draft.refs());
        List<Integer> come = new ArrayList<>();
        boolean more = true;
        while (more) {
            more = false;
            for (int field = 0; field < 24 && !more; field++) {
                if (graph.containsKey(field) && !come.contains(field) && come.containsAll(graph.get(field))) {
                    come.add(field);
                    more = true;
                }
            }
        }
        return i < come.size() ? come.get(i) : NOT_FOUND;
    }

    boolean wouldRefuse(int node, int field) {
        if (draft.get(node) == null || field(draft, field) == null) {
            return false;
        }
        Map<Integer, Set<Integer>> refs = draft.refs();
        refs.get(node).add(field);
        return circular(draft.graph(refs));
    }

    // ---- revisions and sheets

    boolean exists(int revision, int node) {
        return revision(revision) != null && revision(revision).get(node) != null;
    }

    int revisionOf(int sheet) {
        return sheet(sheet) == null ? INVALID : sheet(sheet).revision;
    }

    int answers(int sheet) {
        return sheet(sheet) == null ? INVALID : sheet(sheet).given.size();
    }

    boolean isShown(int sheet, int revision, int node) {
        return sheet(sheet) != null && exists(revision, node)
                && shown(revision(revision), sheet(sheet), revision(revision).get(node));
    }

    int inForce(int sheet, int revision, int field) {
        if (sheet(sheet) == null || revision(revision) == null || field(revision(revision), field) == null) {
            return INVALID;
        }
        return force(revision(revision), sheet(sheet), field);
    }

    int[] counts(Sheet s) {
        Form form = revision(s.revision);
        int shown = 0;
        int in = 0;
        int open = 0;
        for (Item field : form.fields()) {
            if (shown(form, s, field)) {
                shown++;
                if (force(form, s, field.id) >= 0) {
                    in++;
                } else {
                    open |= 1 << field.id;
                }
            }
        }
        return new int[] {shown, in, open};
    }

    int open(int sheet) {
        return sheet(sheet) == null ? INVALID : counts(sheet(sheet))[2];
    }

    float completeness(int sheet) {
        if (sheet(sheet) == null) {
            return -1f;
        }
        int[] counts = counts(sheet(sheet));
        return counts[0] == 0 ? 1f : (float) counts[1] / (float) counts[0];
    }

    List<Integer> inForce(int field) {
        List<Integer> values = new ArrayList<>();
        for (Sheet s : sheets) {
            int value = force(revision(s.revision), s, field);
            if (value != NOT_FOUND) {
                values.add(value);
            }
        }
        return values;
    }

    float average(int field) {
        List<Integer> values = inForce(field);
        int sum = 0;
        for (int value : values) {
            sum += value;
        }
        return values.isEmpty() ? -1f : (float) sum / (float) values.size();
    }

    int tally(int field, int value) {
        int number = 0;
        for (int one : inForce(field)) {
            number += one == value ? 1 : 0;
        }
        return number;
    }

    // ---- layouts

    final class Sketch {
        boolean print;
        Form form;
        Sheet sheet;
        int row;
        int column;
        TreeMap<Integer, StringBuilder> lines = new TreeMap<>();
        Map<Integer, int[]> places = new HashMap<>();

        void beginRow(int at) {
            if (lines.containsKey(row)) {
                row++;
            }
            column = at;
        }

        void stand(Item item, String text) {
            StringBuilder line = lines.computeIfAbsent(row, key -> new StringBuilder());
            while (line.length() < column) {
                line.append(' ');
            }
            line.append(text);
            places.put(item.id, new int[] {row, column});
        }

        void nodes(List<Item> items, int d) {
            for (Item item : items) {
                if (!print && !shown(form, sheet, item)) {
                    continue;
                }
                if (item.isGroup()) {
                    beginRow(d);
                    if (print && form.page >= 2 && row % form.page == form.page - 1) {
                        row++;
                    }
                    stand(item, "#" + item.name);
                    beginRow(d + 1);
                    nodes(item.kids, d + 1);
                    beginRow(d);
                } else {
                    if (print && item.cond != null) {
                        beginRow(d);
                    }
                    if (column + item.width > (print ? form.print : form.screen)) {
                        beginRow(d);
                    }
                    String label = item.name;
                    if (!print && force(form, sheet, item.id) >= 0) {
                        label += "=" + force(form, sheet, item.id);
                    }
                    stand(item, (label + "__________").substring(0, item.width));
                    column += item.width + 1;
                }
            }
        }

        int rows() {
            return lines.isEmpty() ? 0 : lines.lastKey() + 1;
        }

        String text() {
            StringBuilder text = new StringBuilder();
            for (int i = 0; i < rows(); i++) {
                text.append(lines.getOrDefault(i, new StringBuilder())).append('\n');
            }
            return text.toString();
        }
    }

    Sketch sketch(boolean print, int of) {
        if (print ? revision(of) == null : sheet(of) == null) {
            return null;
        }
        Sketch sketch = new Sketch();
        sketch.print = print;
        sketch.sheet = print ? null : sheet(of);
        sketch.form = print ? revision(of) : revision(sheet(of).revision);
        sketch.nodes(sketch.form.root.kids, 0);
        return sketch;
    }

    int rows(boolean print, int of) {
        Sketch sketch = sketch(print, of);
        return sketch == null ? INVALID : sketch.rows();
    }

    int place(boolean print, int of, int node, boolean column) {
        Sketch sketch = sketch(print, of);
        if (sketch == null || sketch.form.get(node) == null) {
            return INVALID;
        }
        int[] place = sketch.places.get(node);
        return place == null ? NOT_FOUND : place[column ? 1 : 0];
    }

    int pages(int revision) {
        Sketch sketch = sketch(true, revision);
        return sketch == null ? INVALID : (int) Math.ceil(sketch.rows() / (double) sketch.form.page);
    }

    int textLength(boolean print, int of) {
        Sketch sketch = sketch(print, of);
        return sketch == null ? INVALID : sketch.text().length();
    }

    int textByte(boolean print, int of, int i) {
        Sketch sketch = sketch(print, of);
        if (sketch == null || i < 0) {
            return INVALID;
        }
        return i < sketch.text().length() ? sketch.text().charAt(i) : NOT_FOUND;
    }

    // ---- the setup text

    /** A condition with the chains of one part left out and chains within like chains opened. */
    static Cond plain(Cond cond) {
        if (cond.op.equals("test")) {
            return cond;
        }
        Cond plain = new Cond(cond.op);
        for (Cond part : cond.parts) {
            Cond inner = plain(part);
            if (inner.op.equals(cond.op) && !cond.op.equals("not")) {
                plain.parts.addAll(inner.parts);
            } else {
                plain.parts.add(inner);
            }
        }
        return plain.parts.size() == 1 && !cond.op.equals("not") ? plain.parts.get(0) : plain;
    }

    static void tokens(Form form, Cond cond, List<String> out) {
        if (cond.op.equals("test")) {
            out.add(form.get(cond.field).name);
            if (cond.sign != 0) {
                out.add("" + cond.sign);
                out.add("" + cond.number);
            }
            return;
        }
        if (cond.op.equals("not")) {
            out.add("not");
        }
        for (int i = 0; i < cond.parts.size(); i++) {
            Cond part = cond.parts.get(i);
            if (i > 0) {
                out.add(cond.op);
            }
            boolean chain = part.op.equals("or") || part.op.equals("and");
            boolean enclosed = cond.op.equals("not") ? chain : cond.op.equals("and") && part.op.equals("or");
            if (enclosed) {
                out.add("(");
            }
            tokens(form, part, out);
            if (enclosed) {
                out.add(")");
            }
        }
    }

    static void tokens(Form form, List<Item> items, List<String> out) {
        for (Item item : items) {
            out.add(new String[] {"number", "choice", "yesno", "group"}[item.kind]);
            if (item.kind == 0) {
                out.add("" + item.low);
                out.add("" + item.high);
            }
            if (item.kind == 1) {
                out.add("" + (item.high + 1));
            }
            out.add(item.name);
            if (!item.isGroup()) {
                out.add("width");
                out.add("" + item.width);
            }
            if (item.cond != null) {
                out.add("if");
                tokens(form, plain(item.cond), out);
            }
            if (item.isGroup()) {
                out.add("{");
                tokens(form, item.kids, out);
                out.add("}");
            } else {
                out.add(";");
            }
        }
    }

    String setup() {
        List<String> out = new ArrayList<>(List.of("form", "" + draft.screen, "" + draft.print, "" + draft.page, ";"));
        tokens(draft, draft.root.kids, out);
        StringBuilder text = new StringBuilder();
        String before = ";";
        for (String token : out) {
            boolean close = token.equals(";") || token.equals("{") || ";{}".contains(before);
            text.append(close ? "" : " ").append(token);
            before = token;
        }
        return text.toString();
    }

    int setupLength() {
        return setup().length();
    }

    int setupByte(int i) {
        return i < 0 ? INVALID : i < setup().length() ? setup().charAt(i) : NOT_FOUND;
    }

    int tapeLength() {
        return tape.length();
    }
}
