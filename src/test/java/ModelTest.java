import java.util.ArrayList;
import java.util.List;

/**
 * Long runs of calls, drawn by a fixed rule from a seed: class and Model must answer the same. No heap
 * is asked more than the 512 calls of the document: to be looked at, a run is made again on new ones.
 */
public final class ModelTest {
    private static final int RUNS = 480;
    private static final int MOST_CALLS = 512;
    private static final int CALLS = 400;
    // Looking at everything after each call would be dear: in most runs it is done now and then.
    private static final int LOOK_EACH = 40;
    private static final int RUNS_LOOKED_AT_EACH = 79;
    private static final String[] NAMES = {"make", "hold", "loose", "set", "wish", "collect", "pack", "weak", "object",
        "get", "listed", "count", "seen", "at", "freed", "type", "type with a wish"};

    private long state;
    private final List<int[]> calls = new ArrayList<>();
    private final List<int[]> looks = new ArrayList<>();
    private final RingHeap heap = new RingHeap();
    private final Model model = new Model();
    private String last = "";
    private boolean wrong;
    private final int style;
    private int full;
    private int husks;

    private ModelTest(int seed) {
        state = seed * 7919L + 17;
        style = seed % 6;
    }

    public static void main(String[] args) {
        long[] sums = new long[11];
        int failures = 0;
        for (int seed = 0; seed < RUNS && failures < 5; seed++) {
            ModelTest run = new ModelTest(seed);
            if (!run.passes(seed)) {
                failures++;
            }
            for (int what = 0; what < 9; what++) {
                sums[what] += run.model.count(what);
            }
            sums[9] += run.full;
            sums[10] += run.husks;
        }
        StringBuilder text = new StringBuilder("all runs, count(0 .. 8) at their ends, FULL, husks seen:");
        for (long sum : sums) {
            text.append(' ').append(sum);
        }
        System.out.println(text);
        if (failures > 0) {
            System.exit(1);
        }
    }

    private boolean passes(int seed) {
        tellTypes();
        while (calls.size() < CALLS && !wrong) {
            step();
            if (seed % RUNS_LOOKED_AT_EACH == 0 || calls.size() % LOOK_EACH == 0) {
                lookAtAll();
            }
        }
        if (wrong) {
            System.out.println("seed " + seed + ", call " + calls.size() + ": " + last);
        }
        return !wrong;
    }

    private int below(int bound) {
        state = state * 6364136223846793005L + 1442695040888963407L;
        return (int) ((state >>> 33) % bound);
    }

    private void tellTypes() {
        for (int t = 0; t < 10; t++) {
            int fields = style == 3 ? below(3) : below(7);
            int extra = style == 1 || style == 4 ? 0 : style == 2 ? below(61) : below(8);
            if (style == 4) {
                fields = 1 + below(3);
            }
            boolean wish = below(style == 5 ? 2 : 5) == 0;
            tell(t, fields, extra, wish);
        }
    }

    private void tell(int t, int fields, int extra, boolean wish) {
        ask(wish ? 16 : 15, t, fields, extra);
    }

    /** Most draws are of objects that are there, so that rings come about. */
    private int someObject() {
        if (below(40) == 0) {
            return below(90) - 5;
        }
        int most = style == 1 || style == 4 ? 80 : style == 0 || style == 5 ? 9 : 25;
        for (int tries = 0; tries < 20; tries++) {
            int n = below(most);
            if (model.object(n, 0) >= 0) {
                return n;
            }
        }
        return 0;
    }

    private void step() {
        int die = below(100);
        int makes = style == 1 || style == 4 ? 34 : style == 0 ? 14 : 22;
        if (die < makes) {
            ask(0, below(30) == 0 ? below(14) - 2 : below(10), 0, 0);
        } else if (die < makes + 28) {
            ask(3, someObject(), below(25) == 0 ? below(9) - 1 : below(3), below(6) == 0 ? -1 : someObject());
        } else if (die < 83) {
            ask(2, someObject(), 0, 0);
        } else if (die < 87) {
            ask(1, someObject(), 0, 0);
        } else if (die < 91) {
            ask(4, 0, 0, 0);
        } else if (die < 93) {
            ask(5, 0, 0, 0);
        } else if (die < 94) {
            ask(6, 0, 0, 0);
        } else if (die < 99) {
            ask(7, below(24) - 2, below(5) == 0 ? -1 : someObject(), 0);
        } else {
            tell(below(14) - 2, below(10) - 1, below(66) - 2, below(2) == 0);
        }
    }

    private void lookAtAll() {
        looks.clear();
        for (int n = -1; n <= 80; n++) {
            for (int what = -1; what <= 8; what++) {
                look(8, n, what);
            }
            for (int field = -1; field <= 6; field++) {
                look(9, n, field);
            }
        }
        lookThrough(10, 80);
        lookThrough(11, 9);
        lookThrough(12, 20);
        lookThrough(13, 400);
        lookThrough(14, model.count(4));
        int looksAHeap = MOST_CALLS - calls.size();
        RingHeap again = heap;
        for (int i = 0; i < looks.size() && !wrong; i++) {
            if (i % looksAHeap == 0) {
                again = allAgain();
            }
            compare(looks.get(i), answer(again, looks.get(i)));
        }
        lookAtModel();
    }

    private void look(int call, int a, int b) {
        looks.add(new int[] {call, a, b, 0});
    }

    private void lookThrough(int call, int last) {
        for (int i = -1; i <= last; i++) {
            look(call, i, 0);
        }
    }

    private RingHeap allAgain() {
        RingHeap again = new RingHeap();
        for (int[] call : calls) {
            answer(again, call);
        }
        return again;
    }

    private void lookAtModel() {
        for (int n = 0; n < 80; n++) {
            husks += model.object(n, 7) == 1 ? 1 : 0;
        }
        String broken = model.broken();
        if (broken != null && !wrong) {
            wrong = true;
            last = "the model itself is broken: " + broken;
        }
    }

    private void ask(int call, int a, int b, int c) {
        int[] asked = {call, a, b, c};
        calls.add(asked);
        compare(asked, answer(heap, asked));
    }

    private static int answer(RingHeap x, int[] c) {
        try {
            return heapAnswers(x, c[0], c[1], c[2], c[3]);
        } catch (IndexOutOfBoundsException e) {
            // The machine's own exceptions are subclasses of it, and none of them is due.
            return e.getClass() == IndexOutOfBoundsException.class ? Model.INDEX : -9999;
        } catch (IllegalArgumentException e) {
            return Model.ARGUMENT;
        }
    }

    private static int heapAnswers(RingHeap x, int call, int a, int b, int c) {
        switch (call) {
            case 0: return x.make(a);
            case 1: return x.hold(a);
            case 2: return x.loose(a);
            case 3: return x.set(a, b, c);
            case 4: return x.wish();
            case 5: return x.collect();
            case 6: return x.pack();
            case 7: return x.weak(a, b);
            case 8: return x.object(a, b);
            case 9: return x.get(a, b);
            case 10: return x.listed(a);
            case 11: return x.count(a);
            case 12: return x.seen(a);
            case 13: return x.at(a);
            case 14: return x.freed(a);
            default: return x.type(a, b, c, call == 16) ? 1 : 0;
        }
    }

    private int modelAnswers(int call, int a, int b, int c) {
        switch (call) {
            case 0: return model.make(a);
            case 1: return model.hold(a);
            case 2: return model.loose(a);
            case 3: return model.set(a, b, c);
            case 4: return model.wish();
            case 5: return model.collect();
            case 6: return model.pack();
            case 7: return model.weak(a, b);
            case 8: return model.object(a, b);
            case 9: return model.get(a, b);
            case 10: return model.listed(a);
            case 11: return model.count(a);
            case 12: return model.seen(a);
            case 13: return model.at(a);
            case 14: return model.freed(a);
            default: return model.type(a, b, c, call == 16);
        }
    }

    private void compare(int[] call, int got) {
        int due = modelAnswers(call[0], call[1], call[2], call[3]);
        full += call[0] == 0 && due == -2 ? 1 : 0;
        if (got != due && !wrong) {
            wrong = true;
            last = NAMES[call[0]] + "(" + call[1] + ", " + call[2] + ", " + call[3] + ") answered " + got + ", due is "
                    + due;
        }
    }
}
