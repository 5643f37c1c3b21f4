/** The bounds of the document's numbers: the value just inside and the one just outside, on both sides. */
public final class BoundsTest extends HeapCase {
    private static final int[] NO_OBJECTS = {MIN, -2, -1, 80, 81, MAX};

    private BoundsTest() {
    }

    public static void main(String[] args) {
        typesHaveNumbers();
        typesAreToldOnce();
        fieldsOfAType();
        extraWordsOfAType();
        wordsOfAnObject();
        fieldsOfAnObject();
        fieldsHoldNoneAtFirst();
        objectsHaveNumbers();
        theLeastNumberThatIsFree();
        numbersThatHoldNoObject();
        wordsHaveNumbers();
        wordsFromTheAddressOn();
        weakReferencesHaveNumbers();
        weakReferencesAreApart();
        whatsOfAnObject();
        whatsOfTheHeap();
        placesOfTheList();
        handsOfOneObject();
        Check.end();
    }

    private static void typesHaveNumbers() {
        Check.part("Terms: TYPES 0 .. 9");
        RingHeap x = new RingHeap();
        for (int type : new int[] {MIN, -2, -1, 10, 11, MAX}) {
            Check.throwsOf("type(" + type + ")", INDEX, () -> x.type(type, 0, 0, false));
            Check.throwsOf("make(" + type + ")", INDEX, () -> x.make(type));
        }
        for (int type = 9; type >= 0; type--) {
            int t = type;
            Check.throwsOf("not told yet: make(" + t + ")", INDEX, () -> x.make(t));
            Check.holds("told: type(" + t + ")", x.type(t, 0, t, false));
        }
        int address = 0;
        for (int type = 0; type < 10; type++) {
            Check.same("make(" + type + ")", x.make(type), type);
            Check.same("its type", x.object(type, TYPE), type);
            Check.same("as it was told", x.object(type, ADDRESS), address);
            address += 2 + type;
        }
    }

    private static void typesAreToldOnce() {
        Check.part("Terms: TYPES are told once. Promise 2: false when it was (nothing changes)");
        for (int type : new int[] {0, 9}) {
            RingHeap x = new RingHeap();
            Check.holds("the first time", x.type(type, 1, 1, false));
            Check.holds("the same again", !x.type(type, 1, 1, false));
            Check.holds("another telling", !x.type(type, 6, 60, true));
            alike("told again", y -> {
                y.type(type, 1, 1, false);
                y.type(type, 6, 60, true);
                y.make(type);
                y.make(type);
            }, y -> {
                y.type(type, 1, 1, false);
                y.make(type);
                y.make(type);
            });
        }
    }

    private static void fieldsOfAType() {
        Check.part("Terms: FIELDS 0 .. 6");
        RingHeap x = new RingHeap();
        for (int fields : new int[] {MIN, -1, 7, MAX}) {
            Check.throwsOf("fields " + fields, ARGUMENT, () -> x.type(0, fields, 0, false));
            Check.throwsOf("fields " + fields + ", most extra", ARGUMENT, () -> x.type(0, fields, 60, true));
        }
        Check.throwsOf("nothing was told", INDEX, () -> x.make(0));
        for (int fields = 0; fields <= 6; fields++) {
            Check.holds("fields " + fields, x.type(fields, fields, 0, false));
        }
        for (int fields = 0; fields <= 6; fields++) {
            Check.same("make", x.make(fields), fields);
            Check.same("green without fields alone", x.object(fields, COLOUR), fields == 0 ? GREEN : BLACK);
        }
    }

    private static void extraWordsOfAType() {
        Check.part("Terms: EXTRA words 0 .. 60");
        RingHeap x = new RingHeap();
        for (int extra : new int[] {MIN, -1, 61, MAX}) {
            Check.throwsOf("extra " + extra, ARGUMENT, () -> x.type(0, 0, extra, false));
            Check.throwsOf("extra " + extra + ", most fields", ARGUMENT, () -> x.type(0, 6, extra, true));
        }
        Check.throwsOf("nothing was told", INDEX, () -> x.make(0));
        int type = 0;
        for (int extra : new int[] {0, 1, 59, 60}) {
            Check.holds("extra " + extra, x.type(type, 0, extra, false));
            type++;
        }
    }

    private static void wordsOfAnObject() {
        Check.part("Terms: an object takes 2 and its fields and extra WORDS of the 400");
        int[][] told = {{0, 0}, {1, 0}, {0, 1}, {6, 0}, {0, 60}, {6, 60}, {5, 59}};
        for (int[] one : told) {
            RingHeap x = new RingHeap();
            x.type(0, one[0], one[1], false);
            int size = 2 + one[0] + one[1];
            for (int i = 0; i < 3; i++) {
                x.make(0);
                Check.same("words of " + size, x.count(FREE_WORDS), 400 - (i + 1) * size);
                Check.same("just behind the one before", x.object(i, ADDRESS), i * size);
            }
            x.loose(1);
            Check.same("words free again", x.count(FREE_WORDS), 400 - 2 * size);
        }
    }

    private static void fieldsOfAnObject() {
        Check.part("Promises 6 and 7: it has no such field");
        for (int fields = 0; fields <= 6; fields++) {
            RingHeap x = new RingHeap();
            x.type(0, fields, 60, false);
            x.type(1, 0, 0, false);
            x.make(0);
            x.make(1);
            for (int field : new int[] {MIN, -1, fields, 6, 7, MAX}) {
                Check.throwsOf("of " + fields + ": get(0, " + field + ")", INDEX, () -> x.get(0, field));
                Check.throwsOf("of " + fields + ": set(0, " + field + ")", INDEX, () -> x.set(0, field, 1));
                Check.throwsOf("of " + fields + ": none", INDEX, () -> x.set(0, field, NONE));
            }
            for (int field = 0; field < fields; field++) {
                Check.same("of " + fields + ": set(0, " + field + ")", x.set(0, field, 1), 0);
                Check.same("of " + fields + ": get(0, " + field + ")", x.get(0, field), 1);
                Check.same("count", x.object(1, COUNT), 2 + field);
            }
        }
        RingHeap y = new RingHeap();
        y.type(0, 6, 0, false);
        makeMany(y, 7, 0);
        for (int field = 0; field < 6; field++) {
            y.set(6, field, 5 - field);
        }
        for (int field = 0; field < 6; field++) {
            Check.same("each field by itself: " + field, y.get(6, field), 5 - field);
        }
    }

    private static void fieldsHoldNoneAtFirst() {
        Check.part("Terms: a field holds an object, or none (at first)");
        RingHeap x = new RingHeap();
        x.type(0, 6, 0, false);
        for (int round = 0; round < 2; round++) {
            x.make(0);
            for (int field = 0; field < 6; field++) {
                Check.same("at first: " + field, x.get(0, field), NONE);
                Check.same("held", x.set(0, field, 0), 0);
            }
            // A ring by six fields: the next object has its number and its words.
            x.loose(0);
            Check.same("collect", x.collect(), 1);
        }
    }

    private static void objectsHaveNumbers() {
        Check.part("Terms: OBJECTS have numbers 0 .. 79");
        RingHeap x = heap();
        for (int i = 0; i < 80; i++) {
            Check.same("make", x.make(4), i);
        }
        Check.same("an eighty-first", x.make(4), FULL);
        Check.same("objects", x.count(OBJECTS), 80);
        for (int object : new int[] {0, 79}) {
            Check.same("hold(" + object + ")", x.hold(object), 2);
            Check.same("loose(" + object + ")", x.loose(object), 0);
            Check.same("set(" + object + ")", x.set(object, 0, object), 0);
            Check.same("get(" + object + ")", x.get(object, 0), object);
            Check.same("weak(" + object + ")", x.weak(object % 20, object), NONE);
            Check.same("seen(" + object + ")", x.seen(object % 20), object);
            Check.same("object(" + object + ")", x.object(object, TYPE), 4);
            Check.same("address", x.object(object, ADDRESS), 3 * object);
        }
    }

    private static void theLeastNumberThatIsFree() {
        Check.part("Terms: each new one the least that is free");
        RingHeap x = heap();
        makeMany(x, 80, 4);
        for (int object : new int[] {79, 0, 41, 40}) {
            x.loose(object);
        }
        for (int object : new int[] {0, 40, 41, 79}) {
            Check.same("make", x.make(4), object);
        }
        Check.same("no more", x.make(4), FULL);
        RingHeap y = heap();
        makeMany(y, 3, 4);
        y.loose(1);
        Check.same("ahead of a number that never was", y.make(1), 1);
        Check.same("then that one", y.make(1), 3);
    }

    private static void numbersThatHoldNoObject() {
        Check.part("NONE, -1, answers for what is not there: objects");
        RingHeap x = heap();
        makeMany(x, 80, 4);
        x.weak(0, 5);
        x.set(0, 0, 7);
        for (int object : NO_OBJECTS) {
            Check.same("hold(" + object + ")", x.hold(object), NONE);
            Check.same("loose(" + object + ")", x.loose(object), NONE);
            Check.same("set(" + object + ")", x.set(object, 0, 0), NONE);
            Check.throwsOf("get(" + object + ")", INDEX, () -> x.get(object, 0));
            Check.same("object(" + object + ", 0)", x.object(object, 0), NONE);
            Check.same("object(" + object + ", 7)", x.object(object, 7), NONE);
            if (object != NONE) {
                Check.same("set to " + object, x.set(0, 0, object), NONE);
                Check.same("get", x.get(0, 0), 7);
                Check.same("weak to " + object, x.weak(0, object), NONE);
                Check.same("seen", x.seen(0), 5);
            }
        }
        Check.same("-1 is none", x.set(0, 0, NONE), 0);
        Check.same("none is held", x.get(0, 0), NONE);
        Check.same("-1 is none", x.weak(0, NONE), 5);
        Check.same("none is seen", x.seen(0), NONE);
    }

    private static void wordsHaveNumbers() {
        Check.part("Promise 17: there is no such word");
        RingHeap x = new RingHeap();
        noSuchWords(x);
        Check.same("empty: at(0)", x.at(0), NONE);
        Check.same("empty: at(399)", x.at(399), NONE);
        x.type(0, 6, 42, false);
        makeMany(x, 8, 0);
        noSuchWords(x);
        Check.same("full: at(0)", x.at(0), 0);
        Check.same("full: at(399)", x.at(399), 7);
    }

    private static void noSuchWords(RingHeap x) {
        for (int word : new int[] {MIN, -2, -1, 400, 401, MAX}) {
            Check.throwsOf("at(" + word + ")", INDEX, () -> x.at(word));
        }
    }

    private static void wordsFromTheAddressOn() {
        Check.part("Terms: WORDS of the heap, from its ADDRESS on. Promise 17: the object that has a word");
        RingHeap x = new RingHeap();
        int[] sizes = {2, 68, 3, 62, 8};
        int[][] told = {{0, 0}, {6, 60}, {1, 0}, {0, 60}, {6, 0}};
        int address = 0;
        for (int i = 0; i < sizes.length; i++) {
            x.type(i, told[i][0], told[i][1], false);
            x.make(i);
            Check.same("address", x.object(i, ADDRESS), address);
            Check.same("just ahead of it", x.at(Math.max(0, address - 1)), Math.max(0, i - 1));
            Check.same("its first word", x.at(address), i);
            Check.same("its last word", x.at(address + sizes[i] - 1), i);
            Check.same("just behind it", x.at(address + sizes[i]), NONE);
            address += sizes[i];
        }
        x.loose(1);
        Check.same("the last word of the one before", x.at(1), 0);
        Check.same("the first that is free", x.at(2), NONE);
        Check.same("the last that is free", x.at(69), NONE);
        Check.same("the first word of the one behind", x.at(70), 2);
    }

    private static void weakReferencesHaveNumbers() {
        Check.part("Terms: WEAK references 0 .. 19");
        RingHeap x = heap();
        x.make(0);
        for (int w : new int[] {MIN, -2, -1, 20, 21, MAX}) {
            Check.throwsOf("weak(" + w + ", 0)", INDEX, () -> x.weak(w, 0));
            Check.throwsOf("weak(" + w + ", NONE)", INDEX, () -> x.weak(w, NONE));
            Check.throwsOf("seen(" + w + ")", INDEX, () -> x.seen(w));
        }
        for (int w : new int[] {0, 19}) {
            Check.same("to none at first", x.seen(w), NONE);
            Check.same("weak(" + w + ")", x.weak(w, 0), NONE);
            Check.same("what it was to", x.weak(w, 0), 0);
            Check.same("seen(" + w + ")", x.seen(w), 0);
        }
    }

    private static void weakReferencesAreApart() {
        Check.part("Terms: WEAK references are to an object or none; they do not count");
        RingHeap x = heap();
        makeMany(x, 20, 0);
        for (int w = 0; w < 20; w++) {
            Check.same("weak", x.weak(w, 19 - w), NONE);
        }
        for (int w = 0; w < 20; w++) {
            Check.same("each by itself", x.seen(w), 19 - w);
            Check.same("not counted", x.object(w, COUNT), 1);
            Check.same("what it was to", x.weak(w, 7), 19 - w);
        }
        Check.same("freed though twenty are to it", x.loose(7), 1);
        for (int w = 0; w < 20; w++) {
            Check.same("none of them is to it still", x.seen(w), NONE);
        }
    }

    private static void whatsOfAnObject() {
        Check.part("Promise 13: what = 0 .. 7");
        RingHeap x = heap();
        for (int what : new int[] {MIN, -1, 8, MAX}) {
            Check.throwsOf("of none: object(0, " + what + ")", INDEX, () -> x.object(0, what));
        }
        x.make(0);
        x.make(2);
        husk(x, 0);
        for (int object : new int[] {0, 1}) {
            for (int what : new int[] {MIN, -1, 8, MAX}) {
                Check.throwsOf("object(" + object + ", " + what + ")", INDEX, () -> x.object(object, what));
            }
        }
        object(x, 0, 0, 0, BLACK, 0, 1, 0, 0, 1);
        object(x, 1, 2, 1, BLACK, 4, 0, 1, 1, 0);
    }

    private static void whatsOfTheHeap() {
        Check.part("Promise 14: what = 0 .. 8");
        RingHeap x = new RingHeap();
        for (int what : new int[] {MIN, -1, 9, MAX}) {
            Check.throwsOf("count(" + what + ")", INDEX, () -> x.count(what));
        }
        counts(x, 0, 0, 0, 400, 0, 0, 0, 0, 0);
    }

    private static void placesOfTheList() {
        Check.part("Promise 15: object i of the list; NONE");
        RingHeap x = heap();
        Check.same("empty: listed(0)", x.listed(0), NONE);
        Check.same("empty: listed(-1)", x.listed(-1), NONE);
        makeMany(x, 80, 4);
        for (int i = 79; i >= 0; i--) {
            suspect(x, i);
        }
        Check.same("all are in it", x.count(IN_LIST), 80);
        for (int i = 0; i < 80; i++) {
            Check.same("listed(" + i + ")", x.listed(i), 79 - i);
        }
        for (int i : new int[] {MIN, -1, 80, 81, MAX}) {
            Check.same("listed(" + i + ")", x.listed(i), NONE);
        }
        RingHeap y = heap();
        makeMany(y, 3, 4);
        suspect(y, 2);
        Check.same("the only one", y.listed(0), 2);
        Check.same("behind the only one", y.listed(1), NONE);
    }

    private static void handsOfOneObject() {
        Check.part("Terms: an object may be held by several hands (as many as 512 calls allow)");
        RingHeap x = heap();
        x.make(4);
        for (int hands = 2; hands <= 250; hands++) {
            Check.same("hold", x.hold(0), hands);
        }
        for (int hands = 249; hands > 0; hands--) {
            Check.same("loose", x.loose(0), 0);
        }
        Check.same("one hand is left", x.object(0, HANDS), 1);
        Check.same("one count is left", x.object(0, COUNT), 1);
        Check.same("once in the list", x.count(IN_LIST), 1);
    }
}
