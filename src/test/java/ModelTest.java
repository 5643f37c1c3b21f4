/** Long runs of calls, drawn by a fixed rule from a seed: class and Model must answer the same, always. */
public final class ModelTest {
    private static final int RUNS = 480;
    private static final int CALLS = 512;
    // Looking at everything after each call would be dear: in most runs it is done now and then.
    private static final int LOOK_EACH = 16;

    private long state;
    private RingHeap heap;
    private Model model;
    private String last = "";
    private boolean wrong;
    private int style;
    private int full;
    private int husks;

    private ModelTest(int seed) {
        state = seed * 7919L + 17;
        heap = new RingHeap();
        model = new Model();
        style = seed % 6;
    }

    public static void main(String[] args) {
        long[] sums = new long[11];
        int failures = 0;
        for (int seed = 0; seed < RUNS && failures < 5; seed++) {
            ModelTest run = new ModelTest(seed);
            if (!run.passes(seed)) {
                failures++;
            }
            for (int what = 0; what < 9; what++) {
                sums[what] += run.model.count(what);
            }
            sums[9] += run.full;
            sums[10] += run.husks;
        }
        StringBuilder text = new StringBuilder("all runs, count(0 .. 8) at their ends, FULL, husks seen:");
        for (long sum : sums) {
            text.append(' ').append(sum);
        }
        System.out.println(text);
        if (failures > 0) {
            System.exit(1);
        }
    }

    private boolean passes(int seed) {
        tellTypes();
        for (int call = 10; call < CALLS && !wrong; call++) {
            step();
            if (seed % LOOK_EACH == 0 || call % LOOK_EACH == 0 || call == CALLS - 1) {
                lookAtAll();
            }
            if (wrong) {
                System.out.println("seed " + seed + ", call " + call + ": " + last);
            }
        }
        return !wrong;
    }

    private int below(int bound) {
        state = state * 6364136223846793005L + 1442695040888963407L;
        return (int) ((state >>> 33) % bound);
    }

    private void tellTypes() {
        for (int t = 0; t < 10; t++) {
            int fields = style == 3 ? below(3) : below(7);
            int extra = style == 1 || style == 4 ? 0 : style == 2 ? below(61) : below(8);
            if (style == 4) {
                fields = 1 + below(3);
            }
            boolean wish = below(style == 5 ? 2 : 5) == 0;
            tell(t, fields, extra, wish);
        }
    }

    private void tell(int t, int fields, int extra, boolean wish) {
        int got;
        try {
            got = heap.type(t, fields, extra, wish) ? 1 : 0;
        } catch (IndexOutOfBoundsException e) {
            got = Model.INDEX;
        } catch (IllegalArgumentException e) {
            got = Model.ARGUMENT;
        }
        compare("type(" + t + ", " + fields + ", " + extra + ", " + wish + ")", got, model.type(t, fields, extra, wish));
    }

    /** Most draws are of objects that are there, so that rings come about. */
    private int someObject() {
        if (below(40) == 0) {
            return below(90) - 5;
        }
        int most = style == 1 || style == 4 ? 80 : style == 0 || style == 5 ? 9 : 25;
        for (int tries = 0; tries < 20; tries++) {
            int n = below(most);
            if (model.object(n, 0) >= 0) {
                return n;
            }
        }
        return 0;
    }

    private void step() {
        int die = below(100);
        int makes = style == 1 || style == 4 ? 34 : style == 0 ? 14 : 22;
        if (die < makes) {
            ask(0, below(30) == 0 ? below(14) - 2 : below(10), 0, 0);
        } else if (die < makes + 28) {
            ask(3, someObject(), below(25) == 0 ? below(9) - 1 : below(3), below(6) == 0 ? -1 : someObject());
        } else if (die < 83) {
            ask(2, someObject(), 0, 0);
        } else if (die < 87) {
            ask(1, someObject(), 0, 0);
        } else if (die < 91) {
            ask(4, 0, 0, 0);
        } else if (die < 93) {
            ask(5, 0, 0, 0);
        } else if (die < 94) {
            ask(6, 0, 0, 0);
        } else if (die < 99) {
            ask(7, below(24) - 2, below(5) == 0 ? -1 : someObject(), 0);
        } else {
            tell(below(14) - 2, below(10) - 1, below(66) - 2, below(2) == 0);
        }
    }

    private void lookAtAll() {
        for (int n = -1; n <= 80; n++) {
            for (int what = -1; what <= 8; what++) {
                ask(8, n, what, 0);
            }
            for (int field = -1; field <= 6; field++) {
                ask(9, n, field, 0);
            }
            ask(10, n, 0, 0);
        }
        for (int what = -1; what <= 9; what++) {
            ask(11, what, 0, 0);
        }
        for (int w = -1; w <= 20; w++) {
            ask(12, w, 0, 0);
        }
        for (int word = -1; word <= 400; word++) {
            ask(13, word, 0, 0);
        }
        int freed = model.count(4);
        for (int i = -1; i <= freed; i++) {
            ask(14, i, 0, 0);
        }
        String broken = model.broken();
        if (broken != null && !wrong) {
            wrong = true;
            last = "the model itself is broken: " + broken;
        }
    }

    private void ask(int call, int a, int b, int c) {
        int got;
        try {
            got = heapAnswers(call, a, b, c);
        } catch (IndexOutOfBoundsException e) {
            // The machine's own exceptions are subclasses of it, and none of them is due.
            got = e.getClass() == IndexOutOfBoundsException.class ? Model.INDEX : -9999;
        }
        String[] names = {"make", "hold", "loose", "set", "wish", "collect", "pack", "weak", "object", "get",
            "listed", "count", "seen", "at", "freed"};
        int due = modelAnswers(call, a, b, c);
        full += call == 0 && due == -2 ? 1 : 0;
        husks += call == 8 && b == 7 && due == 1 ? 1 : 0;
        compare(names[call] + "(" + a + ", " + b + ", " + c + ")", got, due);
    }

    private int heapAnswers(int call, int a, int b, int c) {
        switch (call) {
            case 0: return heap.make(a);
            case 1: return heap.hold(a);
            case 2: return heap.loose(a);
            case 3: return heap.set(a, b, c);
            case 4: return heap.wish();
            case 5: return heap.collect();
            case 6: return heap.pack();
            case 7: return heap.weak(a, b);
            case 8: return heap.object(a, b);
            case 9: return heap.get(a, b);
            case 10: return heap.listed(a);
            case 11: return heap.count(a);
            case 12: return heap.seen(a);
            case 13: return heap.at(a);
            default: return heap.freed(a);
        }
    }

    private int modelAnswers(int call, int a, int b, int c) {
        switch (call) {
            case 0: return model.make(a);
            case 1: return model.hold(a);
            case 2: return model.loose(a);
            case 3: return model.set(a, b, c);
            case 4: return model.wish();
            case 5: return model.collect();
            case 6: return model.pack();
            case 7: return model.weak(a, b);
            case 8: return model.object(a, b);
            case 9: return model.get(a, b);
            case 10: return model.listed(a);
            case 11: return model.count(a);
            case 12: return model.seen(a);
            case 13: return model.at(a);
            default: return model.freed(a);
        }
    }

    private void compare(String call, int got, int due) {
        if (got != due && !wrong) {
            wrong = true;
            last = call + " answered " + got + ", due is " + due;
        }
    }
}
