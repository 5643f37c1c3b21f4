import java.util.ArrayList;
import java.util.List;

/**
 * All that a heap can be asked without changing it, after a run of calls. The run is made anew on a
 * new heap for each few looks, so that no heap is asked more than the 512 calls of the document.
 */
final class Look {
    private static final int INDEX_THROWN = -1001;
    private static final int OTHER_THROWN = -1002;
    private static final int LOOKS_A_HEAP = 60;
    private static final int FREED_LOOKS = 220;
    private static final List<Look> ALL = all();

    private final String name;
    private final int a;
    private final int b;

    private Look(String name, int a, int b) {
        this.name = name;
        this.a = a;
        this.b = b;
    }

    /** Calls on a new heap, at most some 440. */
    interface Run {
        void on(RingHeap x);
    }

    static List<String> differences(Run run, Run due) {
        int[] got = answers(run);
        int[] want = answers(due);
        List<String> different = new ArrayList<>();
        for (int i = 0; i < got.length; i++) {
            if (got[i] != want[i]) {
                Look look = ALL.get(i);
                different.add(look.name + "(" + look.a + ", " + look.b + ") answered " + got[i] + ", due is " + want[i]);
            }
        }
        return different;
    }

    private static int[] answers(Run run) {
        int[] got = new int[ALL.size()];
        RingHeap x = null;
        for (int i = 0; i < got.length; i++) {
            if (i % LOOKS_A_HEAP == 0) {
                x = new RingHeap();
                run.on(x);
            }
            got[i] = ALL.get(i).answer(x);
        }
        return got;
    }

    private int answer(RingHeap x) {
        try {
            switch (name) {
                case "object": return x.object(a, b);
                case "get": return x.get(a, b);
                case "seen": return x.seen(a);
                case "count": return x.count(a);
                case "listed": return x.listed(a);
                case "freed": return x.freed(a);
                default: return x.at(a);
            }
        } catch (IndexOutOfBoundsException e) {
            return e.getClass() == IndexOutOfBoundsException.class ? INDEX_THROWN : OTHER_THROWN;
        }
    }

    private static List<Look> all() {
        List<Look> looks = new ArrayList<>();
        for (int object = 0; object < 80; object++) {
            for (int what = 0; what < 8; what++) {
                looks.add(new Look("object", object, what));
            }
            for (int field = 0; field < 6; field++) {
                looks.add(new Look("get", object, field));
            }
        }
        addEach(looks, "seen", 20);
        addEach(looks, "count", 9);
        addEach(looks, "listed", 80);
        addEach(looks, "freed", FREED_LOOKS);
        addEach(looks, "at", 400);
        return looks;
    }

    private static void addEach(List<Look> looks, String name, int bound) {
        for (int i = 0; i < bound; i++) {
            looks.add(new Look(name, i, 0));
        }
    }
}
