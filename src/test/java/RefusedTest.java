import java.util.ArrayList;
import java.util.List;

/** Calls that are refused: what they answer, what goes ahead of what, and that they change nothing. */
public final class RefusedTest extends HeapCase {
    private static final int INDEX_THROWN = -1001;
    private static final int ARGUMENT_THROWN = -1002;
    private static final int OTHER_THROWN = -1003;

    private static final List<Refused> ALL = new ArrayList<>();

    private RefusedTest() {
    }

    private interface Ask {
        int of(RingHeap x);
    }

    private record Refused(String call, int due, Ask ask) {
        int answer(RingHeap x) {
            try {
                return ask.of(x);
            } catch (RuntimeException e) {
                // The machine's own exceptions are subclasses of what the document names, and never due.
                Class<?> thrown = e.getClass();
                return thrown == INDEX ? INDEX_THROWN : thrown == ARGUMENT ? ARGUMENT_THROWN : OTHER_THROWN;
            }
        }
    }

    public static void main(String[] args) {
        refusedTypes();
        refusedMakes();
        refusedHands();
        refusedSets();
        refusedGets();
        refusedWeaks();
        refusedLooks();
        theyAnswerAsDue();
        eachChangesNothing();
        allTogetherChangeNothing();
        inAnEmptyHeap();
        inAFullHeap();
        wishOfNone();
        aSecondTime();
        Check.end();
    }

    private static void refuse(String call, int due, Ask ask) {
        ALL.add(new Refused(call, due, ask));
    }

    /**
     * A heap with something of each kind: 0 holds 9 and 1; 2 is green; 3 has its wish still; 4 and 5 are
     * among the WISHES; 6 is a husk; 7 was freed; 8 is a ring in the list; 9 is held by a field alone.
     */
    private static void someOfEach(RingHeap x) {
        x.type(0, 2, 0, false);
        x.type(1, 0, 3, false);
        x.type(2, 1, 0, true);
        x.type(3, 0, 0, true);
        x.type(4, 1, 0, false);
        for (int type : new int[] {0, 4, 1, 2, 2, 3, 4, 1, 0, 4}) {
            x.make(type);
        }
        x.set(0, 0, 9);
        x.set(0, 1, 1);
        x.loose(9);
        x.collect();
        x.loose(5);
        x.weak(0, 0);
        x.weak(1, 8);
        x.weak(2, 6);
        x.weak(19, 4);
        x.loose(4);
        suspect(x, 3);
        husk(x, 6);
        x.loose(7);
        x.pack();
        ring(x, 8);
    }

    /** What comes later tells what a look can't: the order of the WISHES, and which types were told. */
    private static int[] laterAnswers(RingHeap x) {
        int[] got = new int[14];
        got[0] = x.wish();
        got[1] = x.wish();
        got[2] = x.wish();
        got[3] = x.collect();
        got[4] = x.loose(0);
        got[5] = x.make(0);
        for (int type = 5; type < 10; type++) {
            got[1 + type] = x.type(type, 6, 60, true) ? 1 : 0;
        }
        got[11] = x.make(9);
        got[12] = x.loose(3);
        got[13] = x.wish();
        return got;
    }

    private static void refusedTypes() {
        for (int type : new int[] {MIN, -1, 10, MAX}) {
            refuse("type(" + type + ")", INDEX_THROWN, x -> x.type(type, 1, 1, true) ? 1 : 0);
            refuse("type(" + type + "), wrong fields", INDEX_THROWN, x -> x.type(type, 7, 1, true) ? 1 : 0);
            refuse("type(" + type + "), wrong extra", INDEX_THROWN, x -> x.type(type, 1, 61, true) ? 1 : 0);
        }
        // Types 0 and 4 were told, 5 and 9 were not.
        for (int type : new int[] {0, 4, 5, 9}) {
            for (int wrong : new int[] {MIN, -1, 7, 61, MAX}) {
                refuse("type(" + type + "), fields " + wrong, ARGUMENT_THROWN,
                        x -> x.type(type, wrong, 1, true) ? 1 : 0);
                if (wrong != 7) {
                    refuse("type(" + type + "), extra " + wrong, ARGUMENT_THROWN,
                            x -> x.type(type, 1, wrong, true) ? 1 : 0);
                }
            }
        }
        for (int type = 0; type < 5; type++) {
            int t = type;
            refuse("told: type(" + t + "), other numbers", 0, x -> x.type(t, 6, 60, true) ? 1 : 0);
            refuse("told: type(" + t + "), least numbers", 0, x -> x.type(t, 0, 0, false) ? 1 : 0);
        }
    }

    private static void refusedMakes() {
        for (int type : new int[] {MIN, -2, -1, 5, 9, 10, MAX}) {
            refuse("make(" + type + ")", INDEX_THROWN, x -> x.make(type));
        }
    }

    private static void refusedHands() {
        for (int object : new int[] {MIN, -2, -1, 6, 7, 10, 79, 80, MAX}) {
            refuse("hold(" + object + ")", NONE, x -> x.hold(object));
        }
        for (int object : new int[] {MIN, -2, -1, 4, 5, 6, 7, 8, 9, 10, 79, 80, MAX}) {
            refuse("loose(" + object + ")", NONE, x -> x.loose(object));
        }
    }

    private static void refusedSets() {
        for (int object : new int[] {MIN, -2, -1, 6, 7, 10, 79, 80, MAX}) {
            refuse("no object: set(" + object + ", 0, 1)", NONE, x -> x.set(object, 0, 1));
            refuse("no object: set(" + object + ", 0, NONE)", NONE, x -> x.set(object, 0, NONE));
            refuse("no object ahead of no field: set(" + object + ", 7, 1)", NONE, x -> x.set(object, 7, 1));
            refuse("no object ahead of no field: set(" + object + ", -1, 7)", NONE, x -> x.set(object, -1, 7));
        }
        for (int field : new int[] {MIN, -1, 2, 5, 6, MAX}) {
            refuse("no field: set(0, " + field + ", 1)", INDEX_THROWN, x -> x.set(0, field, 1));
            refuse("no field: set(0, " + field + ", NONE)", INDEX_THROWN, x -> x.set(0, field, NONE));
            refuse("no field ahead of a husk: set(0, " + field + ", 6)", INDEX_THROWN, x -> x.set(0, field, 6));
            refuse("no field ahead of no held: set(0, " + field + ", 7)", INDEX_THROWN, x -> x.set(0, field, 7));
            refuse("no field: set(2, " + field + ", 1)", INDEX_THROWN, x -> x.set(2, field, 1));
        }
        refuse("green: set(2, 0, NONE)", INDEX_THROWN, x -> x.set(2, 0, NONE));
        refuse("one field: set(1, 1, NONE)", INDEX_THROWN, x -> x.set(1, 1, NONE));
        for (int held : new int[] {MIN, -2, 6, 7, 10, 79, 80, MAX}) {
            refuse("no held: set(0, 0, " + held + ")", NONE, x -> x.set(0, 0, held));
            refuse("no held: set(1, 0, " + held + ")", NONE, x -> x.set(1, 0, held));
        }
    }

    private static void refusedGets() {
        for (int object : new int[] {MIN, -1, 7, 10, 79, 80, MAX}) {
            refuse("get(" + object + ", 0)", INDEX_THROWN, x -> x.get(object, 0));
        }
        for (int field : new int[] {MIN, -1, 2, 6, MAX}) {
            refuse("get(0, " + field + ")", INDEX_THROWN, x -> x.get(0, field));
            refuse("husk: get(6, " + field + ")", INDEX_THROWN, x -> x.get(6, field));
        }
        refuse("husk: get(6, 1)", INDEX_THROWN, x -> x.get(6, 1));
        refuse("husk: get(6, 0)", NONE, x -> x.get(6, 0));
        refuse("green: get(2, 0)", INDEX_THROWN, x -> x.get(2, 0));
    }

    private static void refusedWeaks() {
        for (int w : new int[] {MIN, -1, 20, MAX}) {
            refuse("weak(" + w + ", 0)", INDEX_THROWN, x -> x.weak(w, 0));
            refuse("weak(" + w + ", NONE)", INDEX_THROWN, x -> x.weak(w, NONE));
            refuse("no reference ahead of no object: weak(" + w + ", 7)", INDEX_THROWN, x -> x.weak(w, 7));
            refuse("no reference ahead of a husk: weak(" + w + ", 6)", INDEX_THROWN, x -> x.weak(w, 6));
            refuse("seen(" + w + ")", INDEX_THROWN, x -> x.seen(w));
        }
        for (int w : new int[] {0, 2, 3, 19}) {
            for (int object : new int[] {MIN, -2, 6, 7, 10, 79, 80, MAX}) {
                refuse("weak(" + w + ", " + object + ")", NONE, x -> x.weak(w, object));
            }
        }
    }

    private static void refusedLooks() {
        for (int what : new int[] {MIN, -1, 8, MAX}) {
            refuse("object(0, " + what + ")", INDEX_THROWN, x -> x.object(0, what));
            refuse("no what ahead of no object: object(7, " + what + ")", INDEX_THROWN, x -> x.object(7, what));
            refuse("no what ahead of no object: object(80, " + what + ")", INDEX_THROWN, x -> x.object(80, what));
        }
        for (int object : new int[] {MIN, -1, 7, 10, 79, 80, MAX}) {
            refuse("object(" + object + ", 0)", NONE, x -> x.object(object, 0));
            refuse("object(" + object + ", 7)", NONE, x -> x.object(object, 7));
        }
        for (int what : new int[] {MIN, -1, 9, MAX}) {
            refuse("count(" + what + ")", INDEX_THROWN, x -> x.count(what));
        }
        for (int i : new int[] {MIN, -1, 4, 80, MAX}) {
            refuse("listed(" + i + ")", NONE, x -> x.listed(i));
            refuse("freed(" + i + ")", NONE, x -> x.freed(i));
        }
        for (int word : new int[] {MIN, -1, 400, MAX}) {
            refuse("at(" + word + ")", INDEX_THROWN, x -> x.at(word));
        }
    }

    private static void theyAnswerAsDue() {
        Check.part("Both, in this order, ahead of any other answer, but where it is told otherwise");
        RingHeap x = new RingHeap();
        someOfEach(x);
        row("the list", list(x, 4), 3, 6, 8, NONE);
        counts(x, 9, 3, 2, 400 - 4 - 3 - 5 - 3 - 3 - 2 - 3 - 4 - 3, 1, 1, 1, 1, 1);
        for (Refused refused : ALL) {
            RingHeap y = new RingHeap();
            someOfEach(y);
            Check.same(refused.call(), refused.answer(y), refused.due());
        }
    }

    private static void eachChangesNothing() {
        Check.part("Calls that throw change nothing. Nothing changes");
        RingHeap plain = new RingHeap();
        someOfEach(plain);
        int[] due = laterAnswers(plain);
        row("later answers", due, 5, 4, NONE);
        for (Refused refused : ALL) {
            alike(refused.call(), x -> {
                someOfEach(x);
                refused.answer(x);
            }, RefusedTest::someOfEach);
            RingHeap y = new RingHeap();
            someOfEach(y);
            refused.answer(y);
            row(refused.call() + ": what comes later", laterAnswers(y), due);
        }
    }

    private static void allTogetherChangeNothing() {
        Check.part("Calls that throw change nothing, one after another");
        alike("all of them", x -> {
            someOfEach(x);
            for (Refused refused : ALL) {
                refused.answer(x);
            }
            laterAnswers(x);
        }, x -> {
            someOfEach(x);
            laterAnswers(x);
        });
    }

    private static void inAnEmptyHeap() {
        Check.part("Refused in an empty heap");
        alike("nothing is there, nothing changes", x -> {
            for (int i = -1; i <= 1; i++) {
                x.hold(i);
                x.loose(i);
                x.set(i, 0, i);
                x.set(i, -1, i);
                x.weak(0, i);
                x.object(i, 0);
                x.listed(i);
                x.freed(i);
            }
            x.wish();
        }, x -> {
        });
        RingHeap y = new RingHeap();
        Check.same("set(0, 9, 9): no object ahead of no field", y.set(0, 9, 9), NONE);
        Check.throwsOf("get(0, 0)", INDEX, () -> y.get(0, 0));
        Check.throwsOf("make(0)", INDEX, () -> y.make(0));
        Check.same("weak(0, 0)", y.weak(0, 0), NONE);
    }

    private static void inAFullHeap() {
        Check.part("Refused in a heap full of objects");
        alike("ahead of FULL, no collection", x -> {
            fullOfRings(x);
            for (int type : new int[] {-1, 1, 9, 10}) {
                refusedMake(x, type);
            }
            x.type(0, 0, 0, false);
            x.hold(80);
            x.loose(80);
            x.set(80, 0, 0);
            x.set(0, 0, 80);
            x.weak(0, 80);
        }, RefusedTest::fullOfRings);
    }

    private static void fullOfRings(RingHeap x) {
        x.type(0, 1, 0, false);
        makeMany(x, 80, 0);
        for (int i = 0; i < 80; i++) {
            ring(x, i);
        }
    }

    private static void refusedMake(RingHeap x, int type) {
        Check.throwsOf("make(" + type + ")", INDEX, () -> x.make(type));
    }

    private static void wishOfNone() {
        Check.part("Promise 8: NONE when there is none");
        alike("wish() of none changes nothing", x -> {
            heapWithOneWishTaken(x);
            x.wish();
            x.wish();
        }, RefusedTest::heapWithOneWishTaken);
    }

    private static void heapWithOneWishTaken(RingHeap x) {
        x.type(0, 1, 0, true);
        makeMany(x, 2, 0);
        x.loose(1);
        x.wish();
    }

    private static void aSecondTime() {
        Check.part("NONE: no hand holds it, once it was let loose");
        RingHeap x = heap();
        makeMany(x, 2, 1);
        Check.same("freed", x.loose(0), 1);
        Check.same("not again", x.loose(0), NONE);
        Check.same("freed ever", x.count(FREED), 1);
        husk(x, x.make(4));
        Check.same("a husk: not again", x.loose(0), NONE);
        Check.same("not freed by that", x.count(FREED), 1);
        Check.same("in the list once", x.count(IN_LIST), 1);
    }
}
