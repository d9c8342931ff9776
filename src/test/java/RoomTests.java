import com.sun.management.ThreadMXBean;
import java.lang.management.ManagementFactory;

/**
 * All calls of one run live in one room: counts the bytes that a run of 512 calls takes, whatever
 * is freed again, and that no call but the parsing ones takes any.
 */
public final class RoomTests {
    private static final ThreadMXBean THREADS = (ThreadMXBean) ManagementFactory.getThreadMXBean();
    private static long sum;

    public static void main(String[] args) {
        int wrong = 0;
        measure(0);
        long parse = measure(1);
        long ask = measure(2);
        System.out.println("RoomTests: parsing " + parse + " bytes, asking " + ask + " bytes (" + sum % 10 + ")");
        // Some 600,000 objects and 7.3 million elements are there; a tenth of that in bytes is plenty.
        if (parse > 4_000_000) {
            System.out.println("512 calls that parse take too much room");
            wrong++;
        }
        if (ask > 600_000) {
            System.out.println("512 calls that ask take too much room");
            wrong++;
        }
        System.exit(wrong == 0 ? 0 : 1);
    }

    private static long measure(int kind) {
        FormDesigner warm = new FormDesigner();
        int[] setup = words("form 40 40 3;number 0 9 a width 3;group g if a{yesno b width 4;yesno c width 5 if not b;}  ");
        long thread = Thread.currentThread().getId();
        sum += warm.value(0);
        long before = THREADS.getThreadAllocatedBytes(thread);
        FormDesigner x = new FormDesigner();
        put(x, setup);
        x.load();
        if (kind == 1) {
            parseMuch(x);
        } else {
            askMuch(x);
        }
        return THREADS.getThreadAllocatedBytes(thread) - before;
    }

    private static void parseMuch(FormDesigner x) {
        int[] tests = words("a or a or a or a or ");
        int[] last = words("not not not not a   ");
        for (int round = 0; round < 8; round++) {
            for (int i = 0; i < 59; i++) {
                put(x, tests);
            }
            put(x, last);
            sum += x.setCondition(24);
        }
    }

    private static void askMuch(FormDesigner x) {
        x.publish();
        x.begin();
        for (int i = 0; i < 25; i++) {
            sum += x.answer(0, 0, i % 10) + x.setKind(0, 0, 0, 9 + i % 2) + x.dependents(0) + x.inOrder(1);
            sum += x.open(0) + x.rows(false, 0) + x.textByte(true, 0, 5) + x.setupByte(20) + x.tally(0, 1);
            sum += (x.move(1, 0, i % 2) ? 1 : 0) + (x.wouldRefuse(0, 1) ? 1 : 0) + x.undo() + x.pages(0);
            sum += x.place(true, 0, 1, true) + x.inForce(0, 0, 0) + x.node(24, 8) + x.nodeAt(2) + x.undo();
        }
    }

    private static int[] words(String text) {
        int[] words = new int[(text.length() + 19) / 20 * 5];
        for (int i = 0; i < words.length * 4; i++) {
            words[i / 4] = words[i / 4] << 8 | (i < text.length() ? text.charAt(i) : ' ');
        }
        return words;
    }

    private static void put(FormDesigner x, int[] words) {
        for (int i = 0; i + 4 < words.length; i += 5) {
            x.append(words[i], words[i + 1], words[i + 2], words[i + 3], words[i + 4]);
        }
    }
}
