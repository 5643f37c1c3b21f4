import java.util.List;

/** What the tests by hand share: names for what is asked, a heap with types, rows of answers. */
abstract class HeapCase {
    static final Class<IndexOutOfBoundsException> INDEX = IndexOutOfBoundsException.class;
    static final Class<IllegalArgumentException> ARGUMENT = IllegalArgumentException.class;
    static final int NONE = -1;
    static final int FULL = -2;
    static final int MIN = Integer.MIN_VALUE;
    static final int MAX = Integer.MAX_VALUE;

    // The whats of object(), then those of count(), then the colours.
    static final int TYPE = 0;
    static final int COUNT = 1;
    static final int COLOUR = 2;
    static final int ADDRESS = 3;
    static final int LISTED = 4;
    static final int WISH_OPEN = 5;
    static final int HANDS = 6;
    static final int HUSK = 7;
    static final int OBJECTS = 0;
    static final int IN_LIST = 1;
    static final int WISHES = 2;
    static final int FREE_WORDS = 3;
    static final int FREED = 4;
    static final int COLLECTIONS = 5;
    static final int MOVES = 6;
    static final int GRAYED = 7;
    static final int BLACKENED = 8;
    static final int BLACK = 0;
    static final int PURPLE = 3;
    static final int GREEN = 4;

    /** Type 0: two fields; 1: green, 3 extra words; 2: one field and a wish; 3: green with a wish; 4: one field. */
    static RingHeap heap() {
        RingHeap x = new RingHeap();
        x.type(0, 2, 0, false);
        x.type(1, 0, 3, false);
        x.type(2, 1, 0, true);
        x.type(3, 0, 0, true);
        x.type(4, 1, 0, false);
        return x;
    }

    static void makeMany(RingHeap x, int many, int type) {
        for (int i = 0; i < many; i++) {
            x.make(type);
        }
    }

    /** The object holds itself and no hand holds it any more: only a collection finds it. */
    static void ring(RingHeap x, int object) {
        x.set(object, 0, object);
        x.loose(object);
    }

    /** The object comes into the list and keeps its count. */
    static void suspect(RingHeap x, int object) {
        x.hold(object);
        x.loose(object);
    }

    /** One hand holds the object: it becomes a husk. */
    static void husk(RingHeap x, int object) {
        suspect(x, object);
        x.loose(object);
    }

    static void counts(RingHeap x, int... due) {
        for (int what = 0; what < due.length; what++) {
            Check.same("count(" + what + ")", x.count(what), due[what]);
        }
    }

    static void object(RingHeap x, int object, int... due) {
        for (int what = 0; what < due.length; what++) {
            Check.same("object(" + object + ", " + what + ")", x.object(object, what), due[what]);
        }
    }

    static void row(String what, int[] got, int... due) {
        for (int i = 0; i < due.length; i++) {
            Check.same(what + " " + i, got[i], due[i]);
        }
    }

    static int[] freedFrom(RingHeap x, int first, int many) {
        int[] got = new int[many];
        for (int i = 0; i < many; i++) {
            got[i] = x.freed(first + i);
        }
        return got;
    }

    static int[] list(RingHeap x, int many) {
        int[] got = new int[many];
        for (int i = 0; i < many; i++) {
            got[i] = x.listed(i);
        }
        return got;
    }

    static int[] wishes(RingHeap x, int many) {
        int[] got = new int[many];
        for (int i = 0; i < many; i++) {
            got[i] = x.wish();
        }
        return got;
    }

    /** What the objects answer to one what, in the order of their numbers. */
    static int[] each(RingHeap x, int what, int many) {
        int[] got = new int[many];
        for (int i = 0; i < many; i++) {
            got[i] = x.object(i, what);
        }
        return got;
    }

    /** After the one run of calls a heap must answer all that it can be asked as after the other. */
    static void alike(String what, Look.Run run, Look.Run due) {
        List<String> different = Look.differences(run, due);
        for (String answer : different) {
            System.out.println(what + ": " + answer);
        }
        Check.same(what + ": answers that differ", different.size(), 0);
    }
}
