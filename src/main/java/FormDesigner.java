/**
 * A designer of forms: a draft that is changed and published as revisions, sheets of answers that
 * belong to a revision, and two layouts (screen and print) of the same tree.
 *
 * No call makes objects but the parts of a condition that is parsed: all else stands in rows that
 * the constructor makes and that every call uses again.
 */
public final class FormDesigner {
    public static final int INVALID = -1;
    public static final int NOT_FOUND = -2;

    private static final int FIELDS = 24;
    private static final int GROUPS = 8;
    private static final int NODES = 32;
    private static final int FIELD_BITS = 0xFFFFFF;
    private static final int GROUP_DEPTH = 4;
    private static final int REVISIONS = 8;
    private static final int SHEETS = 10;
    private static final int UNDOS = 10;
    private static final int TAPE = 1200;
    private static final int NESTING = 6;
    private static final int NAME_LETTERS = 8;
    private static final int INT_DIGITS = 4;
    private static final int MOST = 9999;

    // No condition that the grammar lets in is so deep; the walks over one refuse to go deeper.
    private static final int LEVELS = 40;

    private static final int KIND_NUMBER = 0;
    private static final int KIND_CHOICE = 1;
    private static final int KIND_YESNO = 2;
    private static final int KIND_GROUP = 3;

    // The tokens; a token of one sign is told by that sign's byte, which is greater than all these.
    private static final int END = 0;
    private static final int BAD = 1;
    private static final int NAME = 2;
    private static final int INT = 3;
    private static final int FORM = 4;
    private static final int GROUP = 5;
    private static final int IF = 6;
    private static final int WIDTH = 7;
    private static final int NUMBER = 8;
    private static final int CHOICE = 9;
    private static final int YESNO = 10;
    private static final int OR = 11;
    private static final int AND = 12;
    private static final int NOT = 13;
    private static final int KEYWORDS = 10;

    private final byte[] tape = new byte[TAPE];
    private int tapeSize;
    private int errorAt = NOT_FOUND;
    private final State state = new State();
    private final Form[] revisions = new Form[REVISIONS];
    private final State[] past = new State[UNDOS];
    private int pastCount;
    private int pastNext;
    private final Parser parser = new Parser();
    private final Form scratch = parser.form;
    private final View view = new View();
    private final Layout layout = new Layout();
    private final Writer writer = new Writer();

    public FormDesigner() {
        for (int i = 0; i < REVISIONS; i++) {
            revisions[i] = new Form();
        }
        for (int i = 0; i < UNDOS; i++) {
            past[i] = new State();
        }
    }

    // ---- texts

    public int append(int a, int b, int c, int d, int e) {
        if (tapeSize + 20 > TAPE) {
            return INVALID;
        }
        putWord(a);
        putWord(b);
        putWord(c);
        putWord(d);
        putWord(e);
        return tapeSize;
    }

    public int truncate(int n) {
        if (n < 0 || n > tapeSize) {
            return INVALID;
        }
        tapeSize -= n;
        return tapeSize;
    }

    public int load() {
        parser.start(tape, tapeSize);
        boolean right = parser.readHead() && parser.readNodes(NOT_FOUND) && parser.settle();
        endText();
        if (!right) {
            return INVALID;
        }
        state.draft.copyFrom(scratch);
        state.revisionCount = 0;
        state.sheetCount = 0;
        pastCount = 0;
        return state.draft.fieldsGiven;
    }

    public int insert(int group) {
        if (!state.draft.takesGroup(group)) {
            return INVALID;
        }
        scratch.copyFrom(state.draft);
        parser.start(tape, tapeSize);
        boolean right = parser.readNodes(group) && parser.settle();
        endText();
        if (!right) {
            return INVALID;
        }
        if (scratch.count == state.draft.count) {
            return NOT_FOUND;
        }
        int added = scratch.fieldsGiven - state.draft.fieldsGiven;
        remember();
        state.draft.copyFrom(scratch);
        return added;
    }

    public int setCondition(int node) {
        if (state.draft.find(node) == null) {
            return INVALID;
        }
        scratch.copyFrom(state.draft);
        Node changed = scratch.find(node);
        if (changed == null) {
            return INVALID;
        }
        parser.start(tape, tapeSize);
        boolean right = parser.readCondition(node, changed) && parser.settle();
        endText();
        if (!right) {
            return INVALID;
        }
        remember();
        state.draft.copyFrom(scratch);
        return changed.tests;
    }

    public int errorPosition() {
        return errorAt;
    }

    // ---- the draft

    public boolean rename(int node, int letters) {
        Node renamed = state.draft.find(node);
        long name = nameOf(letters);
        if (renamed == null || name == 0 || parser.isKeyword(name) || state.draft.findName(name) >= 0) {
            return false;
        }
        remember();
        renamed.name = name;
        return true;
    }

    public int remove(int node) {
        Form draft = state.draft;
        if (draft.find(node) == null) {
            return INVALID;
        }
        int fields = draft.fieldsOf(node);
        if (draft.isNeededOutside(node, fields)) {
            return NOT_FOUND;
        }
        remember();
        draft.takeAway(node);
        return Integer.bitCount(fields);
    }

    public boolean move(int node, int group, int index) {
        Form draft = state.draft;
        Node moved = draft.find(node);
        if (moved == null || !draft.takesGroup(group) || draft.isAround(node, group)) {
            return false;
        }
        int others = draft.listSize(group) - (moved.group == group ? 1 : 0);
        if (index < 0 || index > others) {
            return false;
        }
        if (moved.group == group && draft.indexOf(node) == index) {
            return false;
        }
        scratch.copyFrom(draft);
        scratch.transfer(node, group, index);
        if (scratch.isTooDeep() || scratch.isCircular()) {
            return false;
        }
        remember();
        draft.copyFrom(scratch);
        return true;
    }

    public int setKind(int field, int kind, int low, int high) {
        Node changed = state.draft.findField(field);
        if (changed == null || !isKind(kind, low, high)) {
            return INVALID;
        }
        int highest = kind == KIND_CHOICE ? high - 1 : high;
        if (changed.kind == kind && changed.low == low && changed.high == highest) {
            return NOT_FOUND;
        }
        int previous = changed.kind;
        remember();
        changed.kind = kind;
        changed.low = low;
        changed.high = highest;
        return previous;
    }

    public int publish() {
        int revision = state.revisionCount;
        if (revision < 0 || revision >= REVISIONS || revisions[revision] == null) {
            return NOT_FOUND;
        }
        remember();
        revisions[revision].copyFrom(state.draft);
        state.revisionCount = revision + 1;
        return revision;
    }

    // ---- sheets

    public int begin() {
        int sheet = state.sheetCount;
        if (state.revisionCount == 0 || sheet < 0 || sheet >= SHEETS || state.sheets[sheet] == null) {
            return NOT_FOUND;
        }
        remember();
        state.sheets[sheet].clear(state.revisionCount - 1);
        state.sheetCount = sheet + 1;
        return sheet;
    }

    public int answer(int sheet, int field, int value) {
        Sheet answered = state.findSheet(sheet);
        Form form = formOf(answered);
        if (answered == null || form == null) {
            return INVALID;
        }
        Node asked = form.findField(field);
        if (asked == null || (value != NOT_FOUND && !asked.allows(value))) {
            return INVALID;
        }
        view.look(form, answered);
        if (!view.shows(field) || answered.given(field) == value) {
            return NOT_FOUND;
        }
        int before = view.shown;
        remember();
        answered.give(field, value);
        view.look(form, answered);
        return Integer.bitCount(before ^ view.shown);
    }

    public int advance(int sheet) {
        Sheet advanced = state.findSheet(sheet);
        Form latest = findRevision(state.revisionCount - 1);
        if (advanced == null || latest == null) {
            return INVALID;
        }
        if (advanced.revision == state.revisionCount - 1) {
            return NOT_FOUND;
        }
        remember();
        advanced.revision = state.revisionCount - 1;
        int deleted = 0;
        for (int field = 0; field < FIELDS; field++) {
            if (advanced.given(field) != NOT_FOUND && latest.findField(field) == null) {
                advanced.give(field, NOT_FOUND);
                deleted++;
            }
        }
        return deleted;
    }

    public int undo() {
        if (pastCount <= 0) {
            return INVALID;
        }
        pastNext = Math.floorMod(pastNext - 1, UNDOS);
        pastCount--;
        if (past[pastNext] != null) {
            state.copyFrom(past[pastNext]);
        }
        return pastCount;
    }

    // ---- nodes

    public int value(int what) {
        Form draft = state.draft;
        switch (what) {
            case 0: return draft.screen;
            case 1: return draft.print;
            case 2: return draft.page;
            case 3: return Integer.bitCount(draft.fieldsOf(NOT_FOUND));
            case 4: return draft.count - Integer.bitCount(draft.fieldsOf(NOT_FOUND));
            case 5: return state.revisionCount;
            case 6: return state.sheetCount;
            case 7: return draft.fieldsGiven;
            case 8: return draft.groupsGiven;
            case 9: return draft.conditions();
            default: return INVALID;
        }
    }

    public int node(int node, int what) {
        Form draft = state.draft;
        Node asked = draft.find(node);
        if (asked == null) {
            return INVALID;
        }
        switch (what) {
            case 0: return asked.kind;
            case 1: return asked.low;
            case 2: return asked.high;
            case 3: return asked.width;
            case 4: return asked.group;
            case 5: return draft.indexOf(node);
            case 6: return draft.levelOf(asked.group);
            case 7: return asked.tests;
            case 8: return asked.kind == KIND_GROUP ? draft.listSize(node - FIELDS) : 0;
            default: return INVALID;
        }
    }

    public int letter(int node, int i) {
        Node asked = state.draft.find(node);
        if (asked == null || i < 0) {
            return INVALID;
        }
        return letterOf(asked.name, i);
    }

    public int named(int letters) {
        long name = nameOf(letters);
        return name == 0 ? INVALID : state.draft.findName(name);
    }

    public int nodeAt(int i) {
        return i < 0 ? INVALID : state.draft.at(i);
    }

    public int dependsOn(int field) {
        return state.draft.findField(field) == null ? INVALID : state.draft.needs(field);
    }

    public int dependents(int field) {
        if (state.draft.findField(field) == null) {
            return INVALID;
        }
        int mask = 0;
        for (int other = 0; other < FIELDS; other++) {
            if (hasBit(state.draft.allNeeds(other), field)) {
                mask |= 1 << other;
            }
        }
        return mask;
    }

    public int inOrder(int i) {
        if (i < 0) {
            return INVALID;
        }
        int come = 0;
        int field = NOT_FOUND;
        for (int place = 0; place <= i && place <= FIELDS; place++) {
            field = state.draft.nextField(come);
            if (field < 0) {
                return NOT_FOUND;
            }
            come |= 1 << field;
        }
        return field;
    }

    public boolean wouldRefuse(int node, int field) {
        Form draft = state.draft;
        return draft.find(node) != null && draft.findField(field) != null && draft.refuses(node, field);
    }

    // ---- revisions and sheets

    public boolean exists(int revision, int node) {
        Form form = findRevision(revision);
        return form != null && form.find(node) != null;
    }

    public int revisionOf(int sheet) {
        Sheet asked = state.findSheet(sheet);
        return asked == null ? INVALID : asked.revision;
    }

    public int answers(int sheet) {
        Sheet asked = state.findSheet(sheet);
        if (asked == null) {
            return INVALID;
        }
        int kept = 0;
        for (int field = 0; field < FIELDS; field++) {
            if (asked.given(field) != NOT_FOUND) {
                kept++;
            }
        }
        return kept;
    }

    public boolean isShown(int sheet, int revision, int node) {
        Sheet asked = state.findSheet(sheet);
        Form form = findRevision(revision);
        if (asked == null || form == null || form.find(node) == null) {
            return false;
        }
        view.look(form, asked);
        return view.shows(node);
    }

    public int inForce(int sheet, int revision, int field) {
        Sheet asked = state.findSheet(sheet);
        Form form = findRevision(revision);
        if (asked == null || form == null || form.findField(field) == null) {
            return INVALID;
        }
        view.look(form, asked);
        return view.force(field);
    }

    public int open(int sheet) {
        return lookAt(sheet) ? view.shown & FIELD_BITS & ~view.answered : INVALID;
    }

    public float completeness(int sheet) {
        if (!lookAt(sheet)) {
            return -1f;
        }
        int shown = Integer.bitCount(view.shown & FIELD_BITS);
        return shown == 0 ? 1f : (float) Integer.bitCount(view.answered) / (float) shown;
    }

    public float average(int field) {
        int sum = 0;
        int number = 0;
        for (int sheet = 0; sheet < state.sheetCount; sheet++) {
            if (lookAt(sheet) && view.force(field) >= 0) {
                sum += view.force(field);
                number++;
            }
        }
        return number == 0 ? -1f : (float) sum / (float) number;
    }

    public int tally(int field, int value) {
        int number = 0;
        for (int sheet = 0; sheet < state.sheetCount; sheet++) {
            if (lookAt(sheet) && view.force(field) >= 0 && view.force(field) == value) {
                number++;
            }
        }
        return number;
    }

    // ---- layouts

    public int rows(boolean print, int of) {
        return arranged(print, of) == null ? INVALID : layout.rowCount;
    }

    public int place(boolean print, int of, int node, boolean column) {
        Form form = arranged(print, of);
        if (form == null || form.find(node) == null) {
            return INVALID;
        }
        return column ? layout.columnOf(node) : layout.rowOf(node);
    }

    public int pages(int revision) {
        Form form = arranged(true, revision);
        if (form == null || form.page < 1) {
            return INVALID;
        }
        return (layout.rowCount + form.page - 1) / form.page;
    }

    public int textLength(boolean print, int of) {
        Form form = arranged(print, of);
        if (form == null) {
            return INVALID;
        }
        writer.start(INVALID);
        writer.writeLayout(form, layout, print ? null : view);
        return writer.length;
    }

    public int textByte(boolean print, int of, int i) {
        Form form = i < 0 ? null : arranged(print, of);
        if (form == null) {
            return INVALID;
        }
        writer.start(i);
        writer.writeLayout(form, layout, print ? null : view);
        return writer.found;
    }

    public int setupLength() {
        writer.start(INVALID);
        writer.writeSetup(state.draft);
        return writer.length;
    }

    public int setupByte(int i) {
        if (i < 0) {
            return INVALID;
        }
        writer.start(i);
        writer.writeSetup(state.draft);
        return writer.found;
    }

    public int tapeLength() {
        return tapeSize;
    }

    // ---- what the calls share

    private void putWord(int word) {
        for (int shift = 24; shift >= 0; shift -= 8) {
            if (tapeSize >= 0 && tapeSize < TAPE) {
                tape[tapeSize] = (byte) (word >> shift);
                tapeSize++;
            }
        }
    }

    private void endText() {
        tapeSize = 0;
        errorAt = parser.error;
    }

    /** Keeps the present state for undo(); an operation calls it before it changes anything. */
    private void remember() {
        if (pastNext < 0 || pastNext >= UNDOS || past[pastNext] == null) {
            return;
        }
        past[pastNext].copyFrom(state);
        pastNext = Math.floorMod(pastNext + 1, UNDOS);
        pastCount = Math.min(pastCount + 1, UNDOS);
    }

    private Form findRevision(int revision) {
        boolean there = revision >= 0 && revision < state.revisionCount && revision < REVISIONS;
        return there ? revisions[revision] : null;
    }

    private Form formOf(Sheet sheet) {
        return sheet == null ? null : findRevision(sheet.revision);
    }

    /** Works out what is shown of a sheet in its own revision; false if there is no such sheet. */
    private boolean lookAt(int sheet) {
        Sheet asked = state.findSheet(sheet);
        Form form = formOf(asked);
        if (asked == null || form == null) {
            return false;
        }
        view.look(form, asked);
        return true;
    }

    /** Works out a layout and gives the form that it lays out; null if there is no such layout. */
    private Form arranged(boolean print, int of) {
        Sheet sheet = print ? null : state.findSheet(of);
        Form form = print ? findRevision(of) : formOf(sheet);
        if (form == null) {
            return null;
        }
        if (sheet != null) {
            view.look(form, sheet);
        }
        layout.arrange(form, sheet == null ? null : view);
        return form;
    }

    private static boolean isKind(int kind, int low, int high) {
        switch (kind) {
            case KIND_NUMBER: return low >= 0 && low <= high && high <= MOST;
            case KIND_CHOICE: return low == 0 && high >= 2 && high <= 9;
            case KIND_YESNO: return low == 0 && high == 1;
            default: return false;
        }
    }

    private static boolean hasBit(int mask, int bit) {
        return bit >= 0 && bit < NODES && (mask >>> bit & 1) == 1;
    }

    /** The name that six groups of 5 bits tell, in eight such groups; 0 if they tell none. */
    private static long nameOf(int letters) {
        if (letters < 0 || letters >= 1 << 30) {
            return 0;
        }
        boolean ended = false;
        for (int shift = 25; shift >= 0; shift -= 5) {
            int code = letters >> shift & 31;
            if (code > 26 || (ended && code != 0)) {
                return 0;
            }
            ended = code == 0;
        }
        return (long) letters << 10;
    }

    private static int letterOf(long name, int i) {
        if (i < 0 || i >= NAME_LETTERS) {
            return NOT_FOUND;
        }
        int code = (int) (name >> (35 - 5 * i)) & 31;
        return code == 0 ? NOT_FOUND : 'a' - 1 + code;
    }

    private static String keyword(int token) {
        switch (token) {
            case FORM: return "form";
            case GROUP: return "group";
            case IF: return "if";
            case WIDTH: return "width";
            case NUMBER: return "number";
            case CHOICE: return "choice";
            case YESNO: return "yesno";
            case OR: return "or";
            case AND: return "and";
            case NOT: return "not";
            default: return "";
        }
    }

    /**
     * A part of a condition: a test (kind NAME), or NOT, AND, OR over the chain of parts from first
     * on. It does not change after its text has been parsed, so forms share it.
     */
    private static final class Term {
        final int kind;
        Term first;
        Term next;
        int field = NOT_FOUND;
        int sign;
        int number;

        Term(int kind) {
            this.kind = kind;
        }
    }

    /** A field or a group of a form, or the room for one. */
    private static final class Node {
        boolean present;
        long name;
        int kind;
        int low;
        int high;
        int width;
        int group = NOT_FOUND;
        Term condition;
        int tests;
        int refers;

        void clear() {
            present = false;
            name = 0;
            kind = 0;
            low = 0;
            high = 0;
            width = 0;
            group = NOT_FOUND;
            condition = null;
            tests = 0;
            refers = 0;
        }

        void copyFrom(Node other) {
            present = other.present;
            name = other.name;
            kind = other.kind;
            low = other.low;
            high = other.high;
            width = other.width;
            group = other.group;
            condition = other.condition;
            tests = other.tests;
            refers = other.refers;
        }

        boolean allows(int value) {
            return value >= low && value <= high;
        }
    }

    /**
     * A form: its nodes by their numbers, and their order, in which each group stands ahead of what
     * is in it (so a group and what is in it are always neighbours).
     */
    private static final class Form {
        int screen = 40;
        int print = 40;
        int page = 20;
        int fieldsGiven;
        int groupsGiven;
        int count;
        private final int[] order = new int[NODES];
        private final int[] held = new int[NODES];
        private final Node[] nodes = new Node[NODES];

        Form() {
            for (int i = 0; i < NODES; i++) {
                nodes[i] = new Node();
            }
        }

        void clear() {
            fieldsGiven = 0;
            groupsGiven = 0;
            count = 0;
            for (int i = 0; i < NODES; i++) {
                if (nodes[i] != null) {
                    nodes[i].clear();
                }
            }
        }

        void copyFrom(Form other) {
            screen = other.screen;
            print = other.print;
            page = other.page;
            fieldsGiven = other.fieldsGiven;
            groupsGiven = other.groupsGiven;
            count = other.count;
            for (int i = 0; i < NODES; i++) {
                order[i] = other.order[i];
                if (nodes[i] != null && other.nodes[i] != null) {
                    nodes[i].copyFrom(other.nodes[i]);
                }
            }
        }

        Node find(int node) {
            if (node < 0 || node >= NODES) {
                return null;
            }
            Node found = nodes[node];
            return found != null && found.present ? found : null;
        }

        Node findField(int field) {
            return field < FIELDS ? find(field) : null;
        }

        Node findGroup(int group) {
            if (group < 0 || group >= GROUPS) {
                return null;
            }
            Node found = nodes[FIELDS + group];
            return found != null && found.present ? found : null;
        }

        boolean takesGroup(int group) {
            return group == NOT_FOUND || findGroup(group) != null;
        }

        int findName(long name) {
            for (int i = 0; i < NODES; i++) {
                Node node = find(i);
                if (node != null && node.name == name) {
                    return i;
                }
            }
            return NOT_FOUND;
        }

        int conditions() {
            int number = 0;
            for (int i = 0; i < NODES; i++) {
                Node node = find(i);
                if (node != null && node.condition != null) {
                    number++;
                }
            }
            return number;
        }

        // -- the tree

        int at(int place) {
            return place >= 0 && place < count && place < NODES ? order[place] : NOT_FOUND;
        }

        private void put(int place, int node) {
            if (place >= 0 && place < NODES) {
                order[place] = node;
            }
        }

        private int placeOf(int node) {
            for (int place = 0; place < count; place++) {
                if (at(place) == node) {
                    return place;
                }
            }
            return NOT_FOUND;
        }

        /** How many groups there are from this one outwards; 0 for the form itself. */
        int levelOf(int group) {
            int level = 0;
            Node around = findGroup(group);
            for (int i = 0; i < GROUPS && around != null; i++) {
                level++;
                around = findGroup(around.group);
            }
            return level;
        }

        /** Whether the node is this group, or one around it. */
        boolean isAround(int node, int group) {
            int present = group;
            for (int i = 0; i < GROUPS; i++) {
                Node around = findGroup(present);
                if (around == null) {
                    return false;
                }
                if (FIELDS + present == node) {
                    return true;
                }
                present = around.group;
            }
            return false;
        }

        /** The place behind a node and all that is in it. */
        private int endOf(int node) {
            Node asked = find(node);
            int level = asked == null ? 0 : levelOf(asked.group);
            for (int next = placeOf(node) + 1; next < count; next++) {
                Node other = find(at(next));
                if (other == null || levelOf(other.group) <= level) {
                    return next;
                }
            }
            return count;
        }

        int listSize(int group) {
            int size = 0;
            for (int place = 0; place < count; place++) {
                Node node = find(at(place));
                if (node != null && node.group == group) {
                    size++;
                }
            }
            return size;
        }

        int indexOf(int node) {
            Node asked = find(node);
            int index = 0;
            for (int place = 0; asked != null && place < count && at(place) != node; place++) {
                Node other = find(at(place));
                if (other != null && other.group == asked.group) {
                    index++;
                }
            }
            return index;
        }

        /** The place at which a node comes to stand that gets an index in the list of a group. */
        private int placeFor(int group, int index) {
            int end = group == NOT_FOUND ? count : endOf(FIELDS + group);
            int seen = 0;
            for (int place = 0; place < end; place++) {
                Node node = find(at(place));
                if (node != null && node.group == group) {
                    if (seen == index) {
                        return place;
                    }
                    seen++;
                }
            }
            return end;
        }

        /** The fields among a node and all that is in it; those of the form for NOT_FOUND. */
        int fieldsOf(int node) {
            int mask = 0;
            for (int field = 0; field < FIELDS; field++) {
                Node found = find(field);
                if (found != null && (node == NOT_FOUND || field == node || isAround(node, found.group))) {
                    mask |= 1 << field;
                }
            }
            return mask;
        }

        /** Adds a node at the end of the list of a group; null if there is no room for it. */
        Node add(int node, int group) {
            if (node < 0 || node >= NODES || nodes[node] == null || count < 0 || count >= NODES) {
                return null;
            }
            int end = group == NOT_FOUND ? count : endOf(FIELDS + group);
            for (int place = count; place > end; place--) {
                put(place, at(place - 1));
            }
            put(end, node);
            count++;
            Node added = nodes[node];
            added.clear();
            added.present = true;
            added.group = group;
            return added;
        }

        void takeAway(int node) {
            int from = placeOf(node);
            if (from < 0) {
                return;
            }
            int end = endOf(node);
            for (int place = from; place < end; place++) {
                hold(place - from, at(place));
            }
            cut(from, end);
            for (int i = 0; i < end - from; i++) {
                Node gone = find(heldAt(i));
                if (gone != null) {
                    gone.clear();
                }
            }
        }

        /** Takes a node out with all that is in it and gives it an index in the list of a group. */
        void transfer(int node, int group, int index) {
            Node moved = find(node);
            int from = placeOf(node);
            if (moved == null || from < 0) {
                return;
            }
            int size = endOf(node) - from;
            for (int i = 0; i < size; i++) {
                hold(i, at(from + i));
            }
            cut(from, from + size);
            int to = placeFor(group, index);
            count += size;
            for (int place = count - 1; place >= to + size; place--) {
                put(place, at(place - size));
            }
            for (int i = 0; i < size; i++) {
                put(to + i, heldAt(i));
            }
            moved.group = group;
        }

        private void hold(int i, int node) {
            if (i >= 0 && i < NODES) {
                held[i] = node;
            }
        }

        private int heldAt(int i) {
            return i >= 0 && i < NODES ? held[i] : NOT_FOUND;
        }

        private void cut(int from, int end) {
            int size = end - from;
            for (int place = end; place < count; place++) {
                put(place - size, at(place));
            }
            count -= size;
        }

        boolean isTooDeep() {
            for (int group = 0; group < GROUPS; group++) {
                if (levelOf(group) > GROUP_DEPTH) {
                    return true;
                }
            }
            return false;
        }

        // -- what depends on what

        /** The fields on which a field depends directly. */
        int needs(int field) {
            Node node = findField(field);
            int mask = 0;
            for (int i = 0; i <= GROUPS && node != null; i++) {
                mask |= node.refers;
                node = findGroup(node.group);
            }
            return mask;
        }

        /** The fields on which a field depends, directly or through others. */
        int allNeeds(int field) {
            int all = needs(field);
            for (int round = 0; round < FIELDS; round++) {
                int more = all;
                for (int other = 0; other < FIELDS; other++) {
                    if (hasBit(all, other)) {
                        more |= needs(other);
                    }
                }
                if (more == all) {
                    return all;
                }
                all = more;
            }
            return all;
        }

        /** Whether a field would depend on itself if the node's condition referred to the field. */
        boolean refuses(int node, int field) {
            int reached = allNeeds(field) | (hasBit(FIELD_BITS, field) ? 1 << field : 0);
            return (fieldsOf(node) & reached) != 0;
        }

        boolean isCircular() {
            for (int field = 0; field < FIELDS; field++) {
                if (hasBit(allNeeds(field), field)) {
                    return true;
                }
            }
            return false;
        }

        /** Whether a condition outside the node and what is in it refers to one of these fields. */
        boolean isNeededOutside(int node, int fields) {
            for (int other = 0; other < NODES; other++) {
                Node left = find(other);
                if (left != null && other != node && !isAround(node, left.group)
                        && (left.refers & fields) != 0) {
                    return true;
                }
            }
            return false;
        }

        /** The first field that has not come yet and depends only on fields that have. */
        int nextField(int come) {
            for (int field = 0; field < FIELDS; field++) {
                if (find(field) != null && !hasBit(come, field) && (needs(field) & ~come) == 0) {
                    return field;
                }
            }
            return NOT_FOUND;
        }
    }

    /** A set of answers by the numbers of their fields, and the revision to which it belongs. */
    private static final class Sheet {
        int revision;
        private final int[] values = new int[FIELDS];

        void clear(int newRevision) {
            revision = newRevision;
            for (int i = 0; i < FIELDS; i++) {
                values[i] = NOT_FOUND;
            }
        }

        void copyFrom(Sheet other) {
            revision = other.revision;
            for (int i = 0; i < FIELDS; i++) {
                values[i] = other.values[i];
            }
        }

        int given(int field) {
            return field >= 0 && field < FIELDS ? values[field] : NOT_FOUND;
        }

        void give(int field, int value) {
            if (field >= 0 && field < FIELDS) {
                values[field] = value;
            }
        }
    }

    /**
     * What an operation can change. The revisions themselves stand outside: one that is undone is
     * only not counted any more, and nothing tells of it until its number is given again.
     */
    private static final class State {
        final Form draft = new Form();
        int revisionCount;
        int sheetCount;
        final Sheet[] sheets = new Sheet[SHEETS];

        State() {
            for (int i = 0; i < SHEETS; i++) {
                sheets[i] = new Sheet();
            }
        }

        void copyFrom(State other) {
            draft.copyFrom(other.draft);
            revisionCount = other.revisionCount;
            sheetCount = other.sheetCount;
            for (int i = 0; i < SHEETS; i++) {
                if (sheets[i] != null && other.sheets[i] != null) {
                    sheets[i].copyFrom(other.sheets[i]);
                }
            }
        }

        Sheet findSheet(int sheet) {
            return sheet >= 0 && sheet < sheetCount && sheet < SHEETS ? sheets[sheet] : null;
        }
    }

    /** What is shown and in force of a form with the answers of a sheet. */
    private static final class View {
        int shown;
        int answered;
        private final int[] forces = new int[FIELDS];

        void look(Form form, Sheet sheet) {
            shown = 0;
            answered = 0;
            for (int i = 0; i < FIELDS; i++) {
                forces[i] = NOT_FOUND;
            }
            // In this order a condition meets only fields that have been worked out already.
            int come = 0;
            for (int i = 0; i < FIELDS; i++) {
                int field = form.nextField(come);
                if (field >= 0) {
                    come |= 1 << field;
                    lookAtField(form, sheet, field);
                }
            }
            for (int node = FIELDS; node < NODES; node++) {
                if (isVisible(form, node)) {
                    shown |= 1 << node;
                }
            }
        }

        boolean shows(int node) {
            return hasBit(shown, node);
        }

        int force(int field) {
            return field >= 0 && field < FIELDS ? forces[field] : NOT_FOUND;
        }

        private void lookAtField(Form form, Sheet sheet, int field) {
            Node node = form.findField(field);
            if (node == null || field < 0 || field >= FIELDS || !isVisible(form, field)) {
                return;
            }
            shown |= 1 << field;
            int value = sheet.given(field);
            if (value != NOT_FOUND && node.allows(value)) {
                answered |= 1 << field;
                forces[field] = value;
            }
        }

        private boolean isVisible(Form form, int number) {
            Node node = form.find(number);
            if (node == null) {
                return false;
            }
            for (int i = 0; i <= GROUPS && node != null; i++) {
                if (node.condition != null && !holds(this, node.condition, 0)) {
                    return false;
                }
                node = form.findGroup(node.group);
            }
            return true;
        }

        private static boolean holds(View view, Term term, int level) {
            if (term == null || level > LEVELS) {
                return false;
            }
            if (term.kind == NOT) {
                return !holds(view, term.first, level + 1);
            }
            if (term.kind == NAME) {
                return view.passes(term);
            }
            // "and" ends with the first part that fails, "or" with the first one that holds.
            boolean ending = term.kind == OR;
            for (Term part = term.first; part != null; part = part.next) {
                if (holds(view, part, level + 1) == ending) {
                    return ending;
                }
            }
            return !ending;
        }

        private boolean passes(Term test) {
            int value = force(test.field);
            if (value < 0) {
                return false;
            }
            switch (test.sign) {
                case '=': return value == test.number;
                case '<': return value < test.number;
                case '>': return value > test.number;
                default: return value != 0;
            }
        }
    }

    /** A text cut into tokens, one of which is the present one. */
    private static final class Tokens {
        private static final int WHITE = 0;
        private static final int LETTER = 1;
        private static final int DIGIT = 2;
        private static final int SIGN = 3;

        /** The present token; END behind the last one. */
        int kind;
        int start;
        /** The number of the present token if it is an INT, its packed letters if it is a word. */
        long content;
        private int at;
        private int count;
        private int length;
        private final int[] kinds = new int[TAPE];
        private final int[] starts = new int[TAPE];
        private final int[] sizes = new int[TAPE];
        private final long[] values = new long[TAPE];
        private final long[] keywords = new long[KEYWORDS];

        Tokens() {
            for (int i = 0; i < KEYWORDS; i++) {
                keywords[i] = packed(keyword(FORM + i));
            }
        }

        void read(byte[] text, int size) {
            count = 0;
            length = size;
            int before = WHITE;
            for (int at = 0; at < size && at < text.length && at < TAPE; at++) {
                int sort = sortOf(text[at]);
                if (sort == SIGN || (sort != WHITE && sort != before)) {
                    beginToken(at, sort);
                }
                if (sort != WHITE) {
                    extend(text[at]);
                }
                before = sort;
            }
            for (int i = 0; i < count && i < TAPE; i++) {
                kinds[i] = kindOf(kinds[i], sizes[i], values[i]);
            }
            at = -1;
            step();
        }

        /** Makes the next token the present one. */
        void step() {
            at++;
            boolean there = at >= 0 && at < count && at < TAPE;
            kind = there ? kinds[at] : END;
            start = there ? starts[at] : length;
            content = there ? values[at] : 0;
        }

        /** The keyword with these packed letters; NAME if they are none. */
        int wordOf(long letters) {
            for (int i = 0; i < KEYWORDS; i++) {
                if (keywords[i] == letters) {
                    return FORM + i;
                }
            }
            return NAME;
        }

        private void beginToken(int at, int sort) {
            if (count >= 0 && count < TAPE) {
                kinds[count] = sort;
                starts[count] = at;
                sizes[count] = 0;
                values[count] = 0;
                count++;
            }
        }

        private void extend(int sign) {
            int i = count - 1;
            if (i < 0 || i >= TAPE) {
                return;
            }
            int size = sizes[i];
            if (kinds[i] == SIGN) {
                values[i] = sign;
            } else if (kinds[i] == DIGIT && size < INT_DIGITS) {
                values[i] = values[i] * 10 + (sign - '0');
            } else if (kinds[i] == LETTER && size < NAME_LETTERS) {
                values[i] |= (long) (sign - 'a' + 1) << (35 - 5 * size);
            }
            sizes[i] = size + 1;
        }

        private int kindOf(int sort, int size, long value) {
            if (sort == LETTER) {
                return size > NAME_LETTERS ? BAD : wordOf(value);
            }
            if (sort == DIGIT) {
                return size > INT_DIGITS ? BAD : INT;
            }
            boolean known = value == ';' || value == '{' || value == '}' || value == '('
                    || value == ')' || value == '=' || value == '<' || value == '>';
            return known ? (int) value : BAD;
        }

        private static int sortOf(int sign) {
            if (sign == ' ' || sign == 10) {
                return WHITE;
            }
            if (sign >= 'a' && sign <= 'z') {
                return LETTER;
            }
            return sign >= '0' && sign <= '9' ? DIGIT : SIGN;
        }

        private static long packed(String word) {
            long letters = 0;
            for (int i = 0; i < NAME_LETTERS; i++) {
                letters = letters << 5 | (i < word.length() ? word.charAt(i) - 'a' + 1 : 0);
            }
            return letters;
        }
    }

    /** Reads a text into its form; after a failure that form is of no use, and error tells where. */
    private static final class Parser {
        int error = NOT_FOUND;
        final Form form = new Form();
        private final Tokens tokens = new Tokens();
        private int owner;
        private int tests;
        private final Term[] testTerms = new Term[TAPE];
        private final long[] testNames = new long[TAPE];
        private final int[] testStarts = new int[TAPE];
        private final int[] testOwners = new int[TAPE];

        boolean isKeyword(long name) {
            return tokens.wordOf(name) != NAME;
        }

        void start(byte[] text, int length) {
            tokens.read(text, length);
            error = NOT_FOUND;
            owner = NOT_FOUND;
            tests = 0;
        }

        /** Reads the head of a setup text; the form has no nodes then. */
        boolean readHead() {
            form.clear();
            if (!take(FORM)) {
                return false;
            }
            form.screen = takeInt(14, 60);
            if (form.screen < 0) {
                return false;
            }
            form.print = takeInt(14, 60);
            if (form.print < 0) {
                return false;
            }
            form.page = takeInt(1, 60);
            return form.page >= 0 && take(';');
        }

        /** Reads nodes up to the end of the text, into a group that is there. */
        boolean readNodes(int start) {
            int group = start;
            // Each step takes a token at least, so the text has ended before the steps do.
            for (int step = 0; step <= TAPE; step++) {
                int token = tokens.kind;
                if (token == END && group == start) {
                    return true;
                }
                if (token == GROUP) {
                    group = groupHead(group);
                    if (group < 0) {
                        return false;
                    }
                } else if (token >= NUMBER && token <= YESNO) {
                    if (!field(group)) {
                        return false;
                    }
                } else if (token == '}' && group != start) {
                    Node left = form.findGroup(group);
                    group = left == null ? start : left.group;
                    tokens.step();
                } else {
                    return fail();
                }
            }
            return fail();
        }

        /** Reads a condition up to the end of the text; if there is no token, the node has none. */
        boolean readCondition(int node, Node changed) {
            changed.condition = null;
            changed.tests = 0;
            changed.refers = 0;
            return tokens.kind == END || (condition(node, changed) && take(END));
        }

        /** Turns the names in the conditions into fields, and refuses what would be circular. */
        boolean settle() {
            for (int i = 0; i < tests && i < TAPE; i++) {
                int field = form.findName(testNames[i]);
                if (form.findField(field) == null || testTerms[i] == null) {
                    error = testStarts[i];
                    return false;
                }
                testTerms[i].field = field;
            }
            for (int i = 0; i < tests && i < TAPE; i++) {
                int field = testTerms[i] == null ? NOT_FOUND : testTerms[i].field;
                Node target = form.find(testOwners[i]);
                if (target == null || field < 0 || form.refuses(testOwners[i], field)) {
                    error = testStarts[i];
                    return false;
                }
                target.refers |= 1 << field;
            }
            return true;
        }

        /** The present token cannot stand where it stands. */
        private boolean fail() {
            error = tokens.start;
            return false;
        }

        private boolean take(int kind) {
            if (tokens.kind != kind) {
                return fail();
            }
            tokens.step();
            return true;
        }

        private int takeInt(int low, int high) {
            long number = tokens.content;
            if (tokens.kind != INT || number < low || number > high) {
                fail();
                return INVALID;
            }
            tokens.step();
            return (int) number;
        }

        /** The name of a new node; 0 if none stands here. */
        private long takeNewName() {
            long name = tokens.content;
            if (tokens.kind != NAME || form.findName(name) >= 0) {
                fail();
                return 0;
            }
            tokens.step();
            return name;
        }

        /** Reads a group up to its opening brace; gives its number, INVALID after a failure. */
        private int groupHead(int group) {
            int number = form.groupsGiven;
            if (number >= GROUPS || form.levelOf(group) >= GROUP_DEPTH) {
                fail();
                return INVALID;
            }
            tokens.step();
            long name = takeNewName();
            Node added = name == 0 ? null : form.add(FIELDS + number, group);
            if (added == null) {
                return INVALID;
            }
            form.groupsGiven = number + 1;
            added.name = name;
            added.kind = KIND_GROUP;
            if (tokens.kind == IF) {
                tokens.step();
                if (!condition(FIELDS + number, added)) {
                    return INVALID;
                }
            }
            return take('{') ? number : INVALID;
        }

        private boolean field(int group) {
            int number = form.fieldsGiven;
            if (number >= FIELDS) {
                return fail();
            }
            int kind = tokens.kind - NUMBER;
            tokens.step();
            int low = kind == KIND_NUMBER ? takeInt(0, MOST) : 0;
            if (low < 0) {
                return false;
            }
            int high = takeHighest(kind, low);
            if (high < 0) {
                return false;
            }
            long name = takeNewName();
            Node added = name == 0 ? null : form.add(number, group);
            if (added == null) {
                return false;
            }
            form.fieldsGiven = number + 1;
            added.name = name;
            added.kind = kind;
            added.low = low;
            added.high = high;
            if (!take(WIDTH)) {
                return false;
            }
            added.width = takeInt(1, 10);
            if (added.width < 0) {
                return false;
            }
            if (tokens.kind == IF) {
                tokens.step();
                if (!condition(number, added)) {
                    return false;
                }
            }
            return take(';');
        }

        private int takeHighest(int kind, int low) {
            switch (kind) {
                case KIND_NUMBER: return takeInt(low, MOST);
                case KIND_CHOICE: return takeInt(2, 9) - 1;
                default: return 1;
            }
        }

        private boolean condition(int node, Node target) {
            int before = tests;
            owner = node;
            target.condition = disjunction(0);
            target.tests = tests - before;
            return target.condition != null;
        }

        private Term disjunction(int nesting) {
            Term first = conjunction(nesting);
            if (first == null || tokens.kind != OR) {
                return first;
            }
            Term whole = new Term(OR);
            whole.first = first;
            Term last = first;
            for (int i = 0; i < TAPE && tokens.kind == OR; i++) {
                tokens.step();
                last.next = conjunction(nesting);
                last = last.next;
                if (last == null) {
                    return null;
                }
            }
            return whole;
        }

        private Term conjunction(int nesting) {
            Term first = test(nesting);
            if (first == null || tokens.kind != AND) {
                return first;
            }
            Term whole = new Term(AND);
            whole.first = first;
            Term last = first;
            for (int i = 0; i < TAPE && tokens.kind == AND; i++) {
                tokens.step();
                last.next = test(nesting);
                last = last.next;
                if (last == null) {
                    return null;
                }
            }
            return whole;
        }

        private Term test(int nesting) {
            int token = tokens.kind;
            if (token == NAME) {
                return nameTest();
            }
            if ((token != NOT && token != '(') || nesting >= NESTING) {
                fail();
                return null;
            }
            tokens.step();
            if (token == NOT) {
                return negation(nesting + 1);
            }
            Term inner = disjunction(nesting + 1);
            return inner != null && take(')') ? inner : null;
        }

        private Term negation(int nesting) {
            Term negated = test(nesting);
            if (negated == null) {
                return null;
            }
            Term whole = new Term(NOT);
            whole.first = negated;
            return whole;
        }

        private Term nameTest() {
            if (tests < 0 || tests >= TAPE) {
                fail();
                return null;
            }
            Term test = new Term(NAME);
            testTerms[tests] = test;
            testNames[tests] = tokens.content;
            testStarts[tests] = tokens.start;
            testOwners[tests] = owner;
            tests++;
            tokens.step();
            int sign = tokens.kind;
            if (sign == '=' || sign == '<' || sign == '>') {
                tokens.step();
                test.sign = sign;
                test.number = takeInt(0, MOST);
            }
            return test.number < 0 ? null : test;
        }
    }

    /** Where the nodes of a form stand. */
    private static final class Layout {
        int rowCount;
        private int row;
        private int column;
        private boolean taken;
        private final int[] nodeRows = new int[NODES];
        private final int[] nodeColumns = new int[NODES];

        /** Lays out what a view shows; for the print, without a view, the whole form. */
        void arrange(Form form, View view) {
            start();
            int level = 0;
            for (int place = 0; place < form.count; place++) {
                int number = form.at(place);
                Node node = form.find(number);
                if (node == null || (view != null && !view.shows(number))) {
                    continue;
                }
                int around = form.levelOf(node.group);
                // A group that ends begins a row, and so do several that end together: the same one.
                if (around < level) {
                    beginRow(around);
                }
                level = around;
                if (node.kind == KIND_GROUP) {
                    arrangeGroup(number, around, view == null ? form.page : 0);
                    level = around + 1;
                } else {
                    boolean apart = view == null && node.condition != null;
                    int columns = view == null ? form.print : form.screen;
                    if (apart || (column + node.width > columns)) {
                        beginRow(around);
                    }
                    stand(number);
                    column += node.width + 1;
                }
            }
        }

        int rowOf(int node) {
            return node >= 0 && node < NODES ? nodeRows[node] : NOT_FOUND;
        }

        int columnOf(int node) {
            return node >= 0 && node < NODES ? nodeColumns[node] : NOT_FOUND;
        }

        private void start() {
            rowCount = 0;
            row = 0;
            column = 0;
            taken = false;
            for (int i = 0; i < NODES; i++) {
                nodeRows[i] = NOT_FOUND;
                nodeColumns[i] = NOT_FOUND;
            }
        }

        private void arrangeGroup(int number, int around, int page) {
            beginRow(around);
            if (page >= 2 && row % page == page - 1) {
                row++;
            }
            stand(number);
            beginRow(around + 1);
        }

        private void beginRow(int newColumn) {
            if (taken) {
                row++;
                taken = false;
            }
            column = newColumn;
        }

        private void stand(int node) {
            if (node >= 0 && node < NODES) {
                nodeRows[node] = row;
                nodeColumns[node] = column;
            }
            taken = true;
            rowCount = row + 1;
        }
    }

    /** Writes a text of which only the length and one wanted byte are kept. */
    private static final class Writer {
        int length;
        int found;
        private int wanted;
        private boolean spaced;

        void start(int newWanted) {
            length = 0;
            found = NOT_FOUND;
            wanted = newWanted;
            spaced = false;
        }

        private void put(int sign) {
            if (length == wanted) {
                found = sign;
            }
            length++;
        }

        private void putName(long name) {
            for (int i = 0; i < NAME_LETTERS && letterOf(name, i) >= 0; i++) {
                put(letterOf(name, i));
            }
        }

        // -- the text of a layout

        void writeLayout(Form form, Layout layout, View view) {
            int row = 0;
            int column = 0;
            for (int place = 0; place < form.count; place++) {
                int number = form.at(place);
                Node node = form.find(number);
                if (node == null || layout.rowOf(number) < 0) {
                    continue;
                }
                for (; row < layout.rowOf(number); row++) {
                    put(10);
                    column = 0;
                }
                for (; column < layout.columnOf(number); column++) {
                    put(' ');
                }
                int before = length;
                if (node.kind == KIND_GROUP) {
                    put('#');
                    putName(node.name);
                } else {
                    putField(node, view == null ? NOT_FOUND : view.force(number));
                }
                column += length - before;
            }
            if (layout.rowCount > 0) {
                put(10);
            }
        }

        private void putField(Node node, int answer) {
            int letters = nameLength(node.name);
            for (int i = 0; i < node.width; i++) {
                if (i < letters) {
                    put(letterOf(node.name, i));
                } else if (answer >= 0 && i == letters) {
                    put('=');
                } else if (answer >= 0 && i - letters - 1 < digits(answer)) {
                    put(digit(answer, i - letters - 1));
                } else {
                    put('_');
                }
            }
        }

        private static int nameLength(long name) {
            int size = 0;
            for (int i = 0; i < NAME_LETTERS; i++) {
                size += letterOf(name, i) >= 0 ? 1 : 0;
            }
            return size;
        }

        private static int digits(int number) {
            return number >= 1000 ? 4 : number >= 100 ? 3 : number >= 10 ? 2 : 1;
        }

        private static int digit(int number, int i) {
            int rest = number;
            for (int left = digits(number) - 1; left > i; left--) {
                rest /= 10;
            }
            return '0' + rest % 10;
        }

        // -- the setup text

        void writeSetup(Form form) {
            putKeyword(FORM);
            putNumber(form.screen);
            putNumber(form.print);
            putNumber(form.page);
            putMark(';');
            int level = 0;
            for (int place = 0; place < form.count; place++) {
                Node node = form.find(form.at(place));
                if (node != null) {
                    closeGroups(level, form.levelOf(node.group));
                    putNode(form, node);
                    level = form.levelOf(node.group) + (node.kind == KIND_GROUP ? 1 : 0);
                }
            }
            closeGroups(level, 0);
        }

        private void closeGroups(int from, int to) {
            for (int level = from; level > to; level--) {
                putMark('}');
            }
        }

        private void putNode(Form form, Node node) {
            boolean group = node.kind == KIND_GROUP;
            putKeyword(group ? GROUP : NUMBER + node.kind);
            if (node.kind == KIND_NUMBER) {
                putNumber(node.low);
                putNumber(node.high);
            } else if (node.kind == KIND_CHOICE) {
                putNumber(node.high + 1);
            }
            putSpace();
            putName(node.name);
            if (!group) {
                putKeyword(WIDTH);
                putNumber(node.width);
            }
            if (node.condition != null) {
                putKeyword(IF);
                putTerm(this, form, node.condition, 0);
            }
            putMark(group ? '{' : ';');
        }

        private static void putTerm(Writer to, Form form, Term term, int level) {
            if (term == null || level > LEVELS) {
                return;
            }
            if (term.kind == NAME) {
                to.putTest(form, term);
                return;
            }
            if (term.kind == NOT) {
                to.putKeyword(NOT);
            }
            for (Term part = term.first; part != null; part = part.next) {
                if (part != term.first) {
                    to.putKeyword(term.kind);
                }
                boolean enclosed = (term.kind == NOT && part.kind == AND)
                        || (term.kind != OR && part.kind == OR);
                if (enclosed) {
                    to.putSign('(');
                }
                putTerm(to, form, part, level + 1);
                if (enclosed) {
                    to.putSign(')');
                }
            }
        }

        private void putTest(Form form, Term test) {
            Node field = form.find(test.field);
            putSpace();
            putName(field == null ? 0 : field.name);
            if (test.sign != 0) {
                putSign(test.sign);
                putNumber(test.number);
            }
        }

        /** The space that separates a token from the one before it, where there is one. */
        private void putSpace() {
            if (spaced) {
                put(' ');
            }
            spaced = true;
        }

        private void putKeyword(int token) {
            String word = keyword(token);
            putSpace();
            for (int i = 0; i < word.length(); i++) {
                put(word.charAt(i));
            }
        }

        private void putNumber(int number) {
            putSpace();
            for (int i = 0; i < digits(number); i++) {
                put(digit(number, i));
            }
        }

        private void putSign(int sign) {
            putSpace();
            put(sign);
        }

        /** A semicolon or a brace: no space stands before or behind it. */
        private void putMark(int sign) {
            put(sign);
            spaced = false;
        }
    }
}
