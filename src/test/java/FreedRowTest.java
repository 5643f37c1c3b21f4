/** The row of those that were freed: empty, with one, at its hundredth, past it, and past its second hundred. */
public final class FreedRowTest extends HeapCase {
    private static final int LOOKS_A_HEAP = 60;

    private FreedRowTest() {
    }

    public static void main(String[] args) {
        theLatestHundredAreTold();
        whatIsNoPlaceOfTheRow();
        theNumberThen();
        pastTheHundredthByOneLoose();
        pastTheHundredthByOneSet();
        pastTheHundredthByOneCollection();
        pastTheHundredthByOneMake();
        aHuskIsFreedByACollection();
        Check.end();
    }

    /** Frees so many objects, one by one, and tells number (i * 37) % 80 as the i-th; at most 442 calls. */
    private static void freeMany(RingHeap x, int many) {
        x.type(0, 0, 0, false);
        for (int i = 0; i < many; i++) {
            if (i % 80 == 0) {
                makeMany(x, 80, 0);
            }
            x.loose(dueAt(i));
        }
    }

    private static int dueAt(int i) {
        return i * 37 % 80;
    }

    private static RingHeap afterFreeing(int many) {
        RingHeap x = new RingHeap();
        freeMany(x, many);
        return x;
    }

    private static void theLatestHundredAreTold() {
        Check.part("Promise 16: the i-th object that was ever freed; NONE when it is not among the latest 100");
        for (int many : new int[] {0, 1, 2, 98, 99, 100, 101, 102, 198, 199, 200, 201}) {
            RingHeap x = afterFreeing(many);
            Check.same("freed ever", x.count(FREED), many);
            for (int i = -1; i <= many + 1; i++) {
                // A new heap now and then: none is asked more than 512 calls.
                if (i % LOOKS_A_HEAP == 0) {
                    x = afterFreeing(many);
                }
                boolean told = i >= 0 && i < many && i >= many - 100;
                Check.same("of " + many + ": freed(" + i + ")", x.freed(i), told ? dueAt(i) : NONE);
            }
        }
    }

    private static void whatIsNoPlaceOfTheRow() {
        Check.part("Promise 16: NONE, far outside");
        for (int many : new int[] {0, 1, 100, 101, 201}) {
            RingHeap x = afterFreeing(many);
            for (int i : new int[] {MIN, MIN + 1, -101, -100, -99, -1, many, many + 99, many + 100, MAX - 1, MAX}) {
                Check.same("of " + many + ": freed(" + i + ")", x.freed(i), NONE);
            }
        }
    }

    private static void theNumberThen() {
        Check.part("Promise 16: (its number then)");
        RingHeap x = heap();
        makeMany(x, 2, 1);
        x.loose(1);
        x.loose(0);
        Check.same("another object has the number", x.make(4), 0);
        row("told even so", freedFrom(x, 0, 3), 1, 0, NONE);
        x.loose(0);
        row("told twice", freedFrom(x, 0, 4), 1, 0, 0, NONE);
    }

    /** The row when 80 were freed one by one and then so many at once. */
    private static void pastTheHundredth(RingHeap x, int many, boolean fromTheLast) {
        Check.same("freed ever", x.count(FREED), 80 + many);
        int oldest = many - 20;
        Check.same("the last one not told", x.freed(oldest - 1), NONE);
        Check.same("the first one told", x.freed(oldest), dueAt(oldest));
        Check.same("the last one ahead of them", x.freed(79), dueAt(79));
        for (int i = 0; i < many; i++) {
            Check.same("freed(" + (80 + i) + ")", x.freed(80 + i), fromTheLast ? many - 1 - i : i);
        }
        Check.same("no more", x.freed(80 + many), NONE);
    }

    /** Objects 0 .. many - 1, each held by the one before alone, the first one by a hand; none is in the list. */
    private static void chain(RingHeap x, int many) {
        x.type(1, 1, 0, false);
        makeMany(x, many, 1);
        for (int i = 1; i < many; i++) {
            x.set(i - 1, 0, i);
            x.loose(i);
        }
        x.collect();
    }

    private static void pastTheHundredthByOneLoose() {
        Check.part("FREED: it comes behind the row: past the hundredth by one loose()");
        RingHeap x = afterFreeing(80);
        chain(x, 50);
        Check.same("freed by that", x.loose(0), 50);
        pastTheHundredth(x, 50, true);
    }

    private static void pastTheHundredthByOneSet() {
        Check.part("FREED: it comes behind the row: past the hundredth by one set()");
        RingHeap x = afterFreeing(80);
        chain(x, 50);
        x.make(1);
        x.set(50, 0, 0);
        x.loose(0);
        x.collect();
        Check.same("freed by that", x.set(50, 0, NONE), 50);
        pastTheHundredth(x, 50, true);
    }

    private static void pastTheHundredthByOneCollection() {
        Check.part("FREED: it comes behind the row: past the hundredth by one collect()");
        RingHeap x = afterFreeing(80);
        rings(x, 50);
        Check.same("freed by that", x.collect(), 50);
        pastTheHundredth(x, 50, false);
    }

    private static void rings(RingHeap x, int many) {
        x.type(1, 1, 0, false);
        makeMany(x, many, 1);
        for (int i = 0; i < many; i++) {
            ring(x, i);
        }
    }

    private static void pastTheHundredthByOneMake() {
        Check.part("FREED: it comes behind the row: past the hundredth by the collection of make()");
        RingHeap x = new RingHeap();
        freeMany(x, 80);
        x.type(1, 1, 1, false);
        makeMany(x, 70, 1);
        for (int i = 0; i < 70; i++) {
            ring(x, i);
        }
        x.type(2, 6, 60, false);
        Check.same("free words", x.count(FREE_WORDS), 120);
        makeMany(x, 1, 2);
        Check.same("make", x.make(2), 0);
        pastTheHundredth(x, 70, false);
    }

    private static void aHuskIsFreedByACollection() {
        Check.part("LET GO: it stays there (a HUSK), until a collection; FREED: it comes behind the row");
        RingHeap x = afterFreeing(100);
        makeMany(x, 1, 0);
        x.type(1, 1, 0, false);
        int object = x.make(1);
        suspect(x, object);
        Check.same("no object is freed by that", x.loose(object), 0);
        Check.same("the hundredth is the latest", x.freed(99), dueAt(99));
        Check.same("the first is told still", x.freed(0), dueAt(0));
        Check.same("none behind it", x.freed(100), NONE);
        Check.same("collect", x.collect(), 1);
        Check.same("behind it now", x.freed(100), object);
        Check.same("the first is not told any more", x.freed(0), NONE);
        Check.same("the second is", x.freed(1), dueAt(1));
    }
}
