import java.util.ArrayList;
import java.util.List;
import java.util.Random;

/** Compares FormDesigner with Model over runs of 512 calls; the seeds are fixed, so is every run. */
public final class ModelRuns {
    private static final int[] ODD = {-1000, -3, -2, -1, 24, 31, 32, 33, 100, Integer.MAX_VALUE, Integer.MIN_VALUE};
    private final Random random;
    private final Texts texts;
    private final FormDesigner real = new FormDesigner();
    private final Model model = new Model();
    private final List<String> log = new ArrayList<>();
    private int calls;
    private boolean same = true;
    private static final long[] SEEN = new long[5];

    private ModelRuns(long seed) {
        random = new Random(seed);
        texts = new Texts(random);
    }

    public static void main(String[] args) {
        int runs = args.length > 0 ? Integer.parseInt(args[0]) : 1000;
        int first = args.length > 1 ? Integer.parseInt(args[1]) : 1;
        int wrong = 0;
        for (long seed = first; seed < first + runs && wrong < 3; seed++) {
            ModelRuns run = new ModelRuns(seed);
            if (!run.go()) {
                wrong++;
                System.out.println("run of seed " + seed + " differs:");
                for (String line : run.log) {
                    System.out.println("  " + line);
                }
            }
        }
        System.out.println("ModelRuns: " + runs + " runs, " + wrong + " differ; right texts " + SEEN[0]
                + ", wrong ones " + SEEN[1] + ", operations " + SEEN[2] + ", undone " + SEEN[3]);
        System.exit(wrong == 0 ? 0 : 1);
    }

    private boolean go() {
        for (int i = random.nextInt(8) == 0 ? 4 : 0; i < 4 && model.draft.fields().size() < 5; i++) {
            text(0, -1);
            got("load()", real.load(), model.load());
        }
        for (int i = random.nextInt(4); i > 0; i--) {
            got("publish()", real.publish(), model.publish());
            got("begin()", real.begin(), model.begin());
        }
        int eager = 10 + random.nextInt(60);
        while (same && calls < 500) {
            if (random.nextInt(100) < eager) {
                change();
            } else {
                ask();
            }
        }
        if (same) {
            ends();
        }
        return same;
    }

    private void got(String call, float got, float want) {
        calls++;
        log.add(call + " -> " + got + (got == want ? "" : ", due is " + want));
        same &= got == want;
    }

    private void got(String call, boolean got, boolean want) {
        got(call, got ? 1 : 0, want ? 1 : 0);
    }

    private int pick(int bound) {
        return random.nextInt(25) == 0 ? ODD[random.nextInt(ODD.length)] : random.nextInt(Math.max(1, bound));
    }

    private int anyNode() {
        int places = model.draft.all().size();
        if (places > 0 && random.nextInt(12) != 0) {
            return model.draft.all().get(random.nextInt(places)).id;
        }
        return pick(34);
    }

    private int anyField() {
        return random.nextInt(12) == 0 ? pick(26) : random.nextInt(Math.max(1, model.draft.fieldsGiven));
    }

    private int anyGroup() {
        return random.nextInt(3) == 0 ? -2 : pick(Math.max(1, model.draft.groupsGiven));
    }

    private int letters() {
        switch (random.nextInt(6)) {
            case 0: return random.nextInt();
            case 1: return packed(new String[] {"or", "form", "width", "choice", "not", "yesno", "number",
                "group", "and", "if"}[random.nextInt(10)]);
            case 2: return packed("" + (char) ('a' + random.nextInt(26))) | random.nextInt(4) << random.nextInt(30);
            case 3:
                if (model.draft.all().isEmpty()) {
                    return 0;
                }
                return packed(model.draft.all().get(random.nextInt(model.draft.all().size())).name);
            default: return packed("" + (char) ('a' + random.nextInt(26)) + (char) ('a' + random.nextInt(26)));
        }
    }

    private static int packed(String name) {
        int letters = 0;
        for (int i = 0; i < 6; i++) {
            letters = letters << 5 | (i < name.length() ? name.charAt(i) - 96 : 0);
        }
        return letters;
    }

    /** Puts a text on the tape: 0 a setup, 1 nodes, 2 a condition. */
    private void text(int kind, int node) {
        List<String> known = new ArrayList<>();
        List<String> taken = new ArrayList<>();
        boolean careful = kind == 2 && random.nextInt(4) != 0;
        for (Model.Item item : kind == 0 ? List.<Model.Item>of() : model.draft.all()) {
            taken.add(item.name);
            if (!item.isGroup() && !(careful && model.wouldRefuse(node, item.id))) {
                known.add(item.name);
            }
        }
        int nodes = kind == 0 ? (random.nextInt(4) == 0 ? 26 : random.nextInt(14)) : random.nextInt(4);
        String text = texts.make(kind, known, taken, nodes);
        log.add("text: " + text.replace("\n", "\\n"));
        tape(text);
    }

    private void tape(String text) {
        int missing = Math.floorMod(-text.length(), 20);
        String full = text + " ".repeat(missing);
        for (int i = 0; i < full.length(); i += 20) {
            int[] w = new int[5];
            for (int k = 0; k < 20; k++) {
                w[k / 4] = w[k / 4] << 8 | full.charAt(i + k) & 255;
            }
            got("append()", real.append(w[0], w[1], w[2], w[3], w[4]), model.append(w[0], w[1], w[2], w[3], w[4]));
        }
        if (missing > 0 && random.nextInt(20) != 0) {
            got("truncate(" + missing + ")", real.truncate(missing), model.truncate(missing));
        }
    }

    private void textDone(int result) {
        got("errorPosition()", real.errorPosition(), model.errorPosition());
        got("tapeLength()", real.tapeLength(), model.tapeLength());
        SEEN[result >= 0 ? 0 : 1]++;
    }

    private void change() {
        SEEN[2]++;
        int a = pick(Math.max(1, model.sheets.size()));
        switch (random.nextInt(22)) {
            case 0:
                if (random.nextInt(30) == 0) {
                    text(0, -1);
                    got("load()", real.load(), model.load());
                    textDone(model.error == -2 ? 0 : -1);
                }
                break;
            case 1: case 2:
                text(1, -1);
                int group = anyGroup();
                got("insert(" + group + ")", real.insert(group), model.insert(group));
                textDone(model.error == -2 ? 0 : -1);
                break;
            case 3: case 4: case 5:
                int node = anyNode();
                text(2, node);
                got("setCondition(" + node + ")", real.setCondition(node), model.setCondition(node));
                textDone(model.error == -2 ? 0 : -1);
                break;
            case 6: {
                int letters = letters();
                int named = anyNode();
                got("rename(" + named + ", " + letters + ")", real.rename(named, letters), model.rename(named, letters));
                break;
            }
            case 7:
                if (random.nextInt(3) == 0) {
                    int gone = anyNode();
                    got("remove(" + gone + ")", real.remove(gone), model.remove(gone));
                }
                break;
            case 8: case 9: case 10: {
                int moved = anyNode();
                int into = anyGroup();
                int index = pick(5);
                got("move(" + moved + ", " + into + ", " + index + ")", real.move(moved, into, index),
                        model.move(moved, into, index));
                break;
            }
            case 11: {
                int field = anyField();
                int kind = random.nextInt(12) == 0 ? pick(4) : random.nextInt(3);
                int low = random.nextInt(8) == 0 ? pick(12) : kind == 0 ? random.nextInt(3) : 0;
                int high = random.nextInt(8) == 0 ? pick(10002) : kind == 2 ? 1 : 2 + random.nextInt(8);
                got("setKind(" + field + ", " + kind + ", " + low + ", " + high + ")",
                        real.setKind(field, kind, low, high), model.setKind(field, kind, low, high));
                break;
            }
            case 12: got("publish()", real.publish(), model.publish()); break;
            case 13: got("begin()", real.begin(), model.begin()); break;
            case 14: got("advance(" + a + ")", real.advance(a), model.advance(a)); break;
            case 15:
                SEEN[3]++;
                int times = random.nextInt(8) == 0 ? 11 : 1;
                for (int i = 0; i < times; i++) {
                    got("undo()", real.undo(), model.undo());
                }
                break;
            default:
                for (int i = 0; i < 3; i++) {
                    answer(a);
                }
        }
    }

    private void answer(int sheet) {
        Model.Sheet s = model.sheet(sheet);
        int field = anyField();
        int value = random.nextInt(8) == 0 ? -2 : random.nextInt(5);
        if (s != null && random.nextInt(10) != 0) {
            List<Model.Item> fields = model.revision(s.revision).fields();
            fields.removeIf(one -> random.nextInt(10) != 0 && !model.isShown(sheet, s.revision, one.id));
            if (!fields.isEmpty()) {
                Model.Item item = fields.get(random.nextInt(fields.size()));
                field = item.id;
                if (value >= 0) {
                    value = Math.min(9999, item.low + random.nextInt(item.high - item.low + 1 + random.nextInt(2)));
                }
            }
        }
        got("answer(" + sheet + ", " + field + ", " + value + ")", real.answer(sheet, field, value),
                model.answer(sheet, field, value));
    }

    private void ask() {
        int a = pick(10);
        int n = anyNode();
        int f = anyField();
        int s = pick(Math.max(1, model.sheets.size()));
        int r = pick(Math.max(1, model.revisions.size()));
        boolean print = random.nextBoolean();
        int of = print ? r : s;
        boolean column = random.nextBoolean();
        switch (random.nextInt(28)) {
            case 0: got("value(" + a + ")", real.value(a), model.value(a)); break;
            case 1: case 2: got("node(" + n + ", " + a + ")", real.node(n, a), model.node(n, a)); break;
            case 3: got("letter(" + n + ", " + a + ")", real.letter(n, a), model.letter(n, a)); break;
            case 4: {
                int letters = letters();
                got("named(" + letters + ")", real.named(letters), model.named(letters));
                break;
            }
            case 5: got("nodeAt(" + a + ")", real.nodeAt(a), model.nodeAt(a)); break;
            case 6: got("dependsOn(" + f + ")", real.dependsOn(f), model.dependsOn(f)); break;
            case 7: got("dependents(" + f + ")", real.dependents(f), model.dependents(f)); break;
            case 8: {
                int i = pick(26);
                got("inOrder(" + i + ")", real.inOrder(i), model.inOrder(i));
                break;
            }
            case 9: case 10: got("wouldRefuse(" + n + ", " + f + ")", real.wouldRefuse(n, f), model.wouldRefuse(n, f)); break;
            case 11: got("exists(" + r + ", " + n + ")", real.exists(r, n), model.exists(r, n)); break;
            case 12: got("revisionOf(" + s + ")", real.revisionOf(s), model.revisionOf(s)); break;
            case 13: got("answers(" + s + ")", real.answers(s), model.answers(s)); break;
            case 14: case 15: got("isShown(" + s + ", " + r + ", " + n + ")", real.isShown(s, r, n), model.isShown(s, r, n)); break;
            case 16: case 17: got("inForce(" + s + ", " + r + ", " + f + ")", real.inForce(s, r, f), model.inForce(s, r, f)); break;
            case 18: got("open(" + s + ")", real.open(s), model.open(s)); break;
            case 19: got("completeness(" + s + ")", real.completeness(s), model.completeness(s)); break;
            case 20: got("average(" + f + ")", real.average(f), model.average(f)); break;
            case 21: got("tally(" + f + ", " + a + ")", real.tally(f, a), model.tally(f, a)); break;
            case 22: got("rows(" + print + ", " + of + ")", real.rows(print, of), model.rows(print, of)); break;
            case 23: case 24:
                got("place(" + print + ", " + of + ", " + n + ", " + column + ")",
                        real.place(print, of, n, column), model.place(print, of, n, column));
                break;
            case 25: got("pages(" + r + ")", real.pages(r), model.pages(r)); break;
            case 26: {
                got("textLength(" + print + ", " + of + ")", real.textLength(print, of), model.textLength(print, of));
                int i = pick(1 + Math.max(1, model.textLength(print, of)));
                got("textByte(" + print + ", " + of + ", " + i + ")", real.textByte(print, of, i), model.textByte(print, of, i));
                break;
            }
            default: {
                got("setupLength()", real.setupLength(), model.setupLength());
                int i = pick(2 + model.setupLength());
                got("setupByte(" + i + ")", real.setupByte(i), model.setupByte(i));
            }
        }
    }

    /** Compares whole texts and tables at the end; calls behind the 512th are free, but kept here. */
    private void ends() {
        String setup = model.setup();
        for (int i = 0; i <= setup.length() && same; i++) {
            got("setupByte(" + i + ")", real.setupByte(i), i < setup.length() ? setup.charAt(i) : -2);
        }
        loadAgain(setup);
        for (int r = 0; r < model.revisions.size() && same; r++) {
            whole(true, r);
        }
        for (int s = 0; s < model.sheets.size() && same; s++) {
            whole(false, s);
            for (int r = 0; r < model.revisions.size() && same; r++) {
                for (int n = 0; n < 32; n++) {
                    got("isShown(" + s + ", " + r + ", " + n + ")", real.isShown(s, r, n), model.isShown(s, r, n));
                    got("inForce(" + s + ", " + r + ", " + n + ")", real.inForce(s, r, n), model.inForce(s, r, n));
                }
            }
        }
        for (int n = 0; n < 32 && same; n++) {
            for (int what = 0; what < 9; what++) {
                got("node(" + n + ", " + what + ")", real.node(n, what), model.node(n, what));
            }
            for (int f = 0; f < 24 && same; f++) {
                got("wouldRefuse(" + n + ", " + f + ")", real.wouldRefuse(n, f), model.wouldRefuse(n, f));
            }
            got("nodeAt(" + n + ")", real.nodeAt(n), model.nodeAt(n));
            got("inOrder(" + n + ")", real.inOrder(n), model.inOrder(n));
            got("dependsOn(" + n + ")", real.dependsOn(n), model.dependsOn(n));
            got("dependents(" + n + ")", real.dependents(n), model.dependents(n));
        }
    }

    /** The setup text of a draft is a setup text, and that of the form which it makes is the same. */
    private void loadAgain(String setup) {
        if (setup.length() <= 1200) {
            FormDesigner other = new FormDesigner();
            Calls.put(other, setup);
            got("load() of the setup text", other.load(), model.draft.fields().size());
            got("that it makes the same form", Calls.setup(other).equals(setup), true);
        }
    }

    private void whole(boolean print, int of) {
        String text = model.sketch(print, of).text();
        for (int i = 0; i <= text.length() && same; i++) {
            got("textByte(" + print + ", " + of + ", " + i + ")", real.textByte(print, of, i),
                    i < text.length() ? text.charAt(i) : -2);
        }
    }
}
