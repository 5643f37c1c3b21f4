/** Each promise by hand: ordinary inputs, the edges that the document names, and wrong inputs. */
public final class PromiseTest extends HeapCase {
    private PromiseTest() {
    }

    public static void main(String[] args) {
        promise1NewObject();
        promise2Type();
        promise3Make();
        promise3MakeByCollecting();
        promise3MakeByMoving();
        promise3MakeWithoutNumber();
        promise4Hold();
        promise5Loose();
        promise5LooseChains();
        promise5LooseListed();
        promise6Set();
        promise6SetOrder();
        promise7Get();
        promise8Wish();
        promise9CollectRings();
        promise9CollectHeldRings();
        promise9CollectWishes();
        promise9CollectGreen();
        promise9CollectLong();
        promise10Pack();
        promise11And12Weak();
        promise13Object();
        promise14Count();
        promise15Listed();
        promise16Freed();
        promise17At();
        Check.end();
    }

    private static void promise1NewObject() {
        Check.part("promise 1");
        RingHeap x = new RingHeap();
        counts(x, 0, 0, 0, 400, 0, 0, 0, 0, 0);
        for (int type = 0; type < 10; type++) {
            int t = type;
            Check.throwsOf("make(" + t + ")", INDEX, () -> x.make(t));
        }
        for (int w = 0; w < 20; w++) {
            Check.same("seen(" + w + ")", x.seen(w), NONE);
        }
        for (int word = 0; word < 400; word++) {
            Check.same("at(" + word + ")", x.at(word), NONE);
        }
        RingHeap y = new RingHeap();
        for (int object = 0; object < 80; object++) {
            Check.same("object(" + object + ", 0)", y.object(object, 0), NONE);
        }
        Check.same("listed(0)", y.listed(0), NONE);
        Check.same("freed(0)", y.freed(0), NONE);
        Check.same("wish()", y.wish(), NONE);
        RingHeap other = heap();
        other.make(0);
        Check.same("another heap is apart", y.count(OBJECTS), 0);
    }

    private static void promise2Type() {
        Check.part("promise 2");
        RingHeap x = new RingHeap();
        for (int type : new int[] {MIN, -1, 10, MAX}) {
            Check.throwsOf("type(" + type + ")", INDEX, () -> x.type(type, 0, 0, false));
            Check.throwsOf("index ahead of argument", INDEX, () -> x.type(type, 7, 61, false));
        }
        for (int fields : new int[] {MIN, -1, 7, MAX}) {
            Check.throwsOf("fields " + fields, ARGUMENT, () -> x.type(0, fields, 0, false));
        }
        for (int extra : new int[] {MIN, -1, 61, MAX}) {
            Check.throwsOf("extra " + extra, ARGUMENT, () -> x.type(0, 0, extra, false));
        }
        Check.throwsOf("a throw told nothing", INDEX, () -> x.make(0));
        Check.holds("told first", x.type(0, 6, 60, true));
        Check.holds("not twice", !x.type(0, 1, 0, false));
        Check.throwsOf("argument ahead of false", ARGUMENT, () -> x.type(0, 7, 0, false));
        Check.holds("the least", x.type(9, 0, 0, false));
        Check.same("make(0)", x.make(0), 0);
        Check.same("the first telling holds: words", x.count(FREE_WORDS), 400 - 68);
        Check.same("the first telling holds: wish", x.object(0, WISH_OPEN), 1);
        Check.same("the sixth field", x.get(0, 5), NONE);
        x.make(9);
        Check.same("two words at least", x.count(FREE_WORDS), 400 - 68 - 2);
    }

    private static void promise3Make() {
        Check.part("promise 3");
        RingHeap x = heap();
        for (int type : new int[] {MIN, -1, 5, 9, 10, MAX}) {
            Check.throwsOf("make(" + type + ")", INDEX, () -> x.make(type));
        }
        Check.same("first", x.make(0), 0);
        Check.same("second", x.make(1), 1);
        Check.same("third", x.make(4), 2);
        Check.same("hands", x.object(0, HANDS), 1);
        Check.same("count", x.object(0, COUNT), 1);
        Check.same("black", x.object(0, COLOUR), 0);
        Check.same("green", x.object(1, COLOUR), 4);
        Check.same("address", x.object(1, ADDRESS), 4);
        Check.same("address", x.object(2, ADDRESS), 9);
        x.loose(0);
        Check.same("the least number", x.make(1), 0);
        Check.same("the gap of 4 is too small for 5", x.object(0, ADDRESS), 12);
        Check.same("the next number", x.make(4), 3);
        Check.same("the least address", x.object(3, ADDRESS), 0);
        x.make(4);
        Check.same("the rest of the gap is too small", x.object(4, ADDRESS), 17);
        Check.same("no collection while there is room", x.count(COLLECTIONS), 0);
    }

    private static void promise3MakeByCollecting() {
        Check.part("promise 3, collecting");
        RingHeap x = new RingHeap();
        x.type(0, 1, 60, false);
        x.type(1, 1, 19, false);
        for (int i = 0; i < 6; i++) {
            x.make(0);
        }
        x.make(1);
        Check.same("free", x.count(FREE_WORDS), 0);
        x.set(2, 0, 2);
        x.loose(2);
        Check.same("the ring still stands", x.count(OBJECTS), 7);
        Check.same("make", x.make(1), 2);
        Check.same("where the ring was", x.object(2, ADDRESS), 126);
        Check.same("collections", x.count(COLLECTIONS), 1);
        Check.same("no move", x.count(MOVES), 0);
        Check.same("a new object has its fields empty", x.get(2, 0), NONE);
        x.set(0, 0, 0);
        x.loose(0);
        x.set(1, 0, 1);
        Check.same("collected first", x.make(0), 0);
        Check.same("full", x.make(0), FULL);
        Check.same("full collects each time", x.count(COLLECTIONS), 3);
        x.loose(1);
        x.type(2, 6, 60, false);
        Check.same("too little even so", x.make(2), 1);
        Check.same("by moving", x.count(MOVES), 1);
        RingHeap y = new RingHeap();
        y.type(0, 1, 0, false);
        y.type(1, 0, 60, false);
        y.type(2, 0, 4, false);
        for (int i = 0; i < 6; i++) {
            y.make(1);
        }
        y.make(0);
        for (int i = 0; i < 4; i++) {
            y.make(2);
        }
        y.set(6, 0, 6);
        y.loose(6);
        Check.same("FULL", y.make(1), FULL);
        Check.same("what was collected is so", y.freed(0), 6);
        Check.same("what was collected is so", y.count(OBJECTS), 10);
        Check.same("nothing moved", y.count(MOVES), 0);
    }

    private static void promise3MakeByMoving() {
        Check.part("promise 3, moving");
        RingHeap x = new RingHeap();
        x.type(0, 1, 37, false);
        x.type(1, 1, 57, false);
        for (int i = 0; i < 10; i++) {
            x.make(0);
        }
        x.weak(0, 9);
        x.set(3, 0, 9);
        // 5 is held by 4 and stands in the list, so it stays as a husk.
        x.set(4, 0, 5);
        x.loose(5);
        x.set(4, 0, NONE);
        Check.same("count of 5 fell to nothing with it in the list", x.object(5, HUSK), 1);
        x.loose(0);
        x.loose(2);
        Check.same("make(1)", x.make(1), 0);
        Check.same("the husk went with the collection and left place", x.object(0, ADDRESS), 280);
        Check.same("moved", x.count(MOVES), 1);
        Check.same("collections", x.count(COLLECTIONS), 1);
        Check.same("address of 1", x.object(1, ADDRESS), 0);
        Check.same("address of 3", x.object(3, ADDRESS), 40);
        Check.same("address of 9", x.object(9, ADDRESS), 240);
        Check.same("at", x.at(279), 9);
        Check.same("at", x.at(280), 0);
        Check.same("at", x.at(339), 0);
        Check.same("at", x.at(340), NONE);
        Check.same("fields go with them", x.get(3, 0), 9);
        Check.same("weak references go with them", x.seen(0), 9);
        Check.same("exactly what is free", x.make(1), 2);
        Check.same("exactly what is free", x.count(FREE_WORDS), 0);
        RingHeap y = new RingHeap();
        y.type(0, 0, 28, false);
        y.type(1, 0, 8, false);
        y.type(2, 0, 58, false);
        y.type(3, 0, 59, false);
        for (int i = 0; i < 13; i++) {
            y.make(0);
        }
        y.make(1);
        y.loose(3);
        y.loose(7);
        Check.same("one word too much", y.make(3), FULL);
        Check.same("nothing moves for that", y.count(MOVES), 0);
        Check.same("as much as is free in all", y.make(2), 3);
        Check.same("address", y.object(3, ADDRESS), 340);
        Check.same("moved", y.count(MOVES), 1);
        Check.same("collected each time", y.count(COLLECTIONS), 2);
        Check.same("nothing is free", y.count(FREE_WORDS), 0);
    }

    private static void promise3MakeWithoutNumber() {
        Check.part("promise 3, numbers");
        RingHeap x = new RingHeap();
        x.type(0, 1, 0, false);
        x.type(1, 0, 0, false);
        for (int i = 0; i < 80; i++) {
            Check.same("number " + i, x.make(i == 40 ? 0 : 1), i);
        }
        Check.same("words are left", x.count(FREE_WORDS), 400 - 161);
        Check.same("no number is left", x.make(1), FULL);
        Check.same("it was collected for a number", x.count(COLLECTIONS), 1);
        Check.same("nothing moves for a number", x.count(MOVES), 0);
        x.set(40, 0, 40);
        x.loose(40);
        Check.same("a number by collecting", x.make(1), 40);
        Check.same("collections", x.count(COLLECTIONS), 2);
    }

    private static void promise4Hold() {
        Check.part("promise 4");
        RingHeap x = heap();
        for (int object : new int[] {MIN, -2, -1, 0, 79, 80, MAX}) {
            Check.same("hold(" + object + ")", x.hold(object), NONE);
        }
        x.make(0);
        Check.same("two hands", x.hold(0), 2);
        Check.same("three hands", x.hold(0), 3);
        Check.same("hands", x.object(0, HANDS), 3);
        x.loose(0);
        Check.same("purple", x.object(0, COLOUR), 3);
        Check.same("the count is told", x.hold(0), 3);
        Check.same("black again", x.object(0, COLOUR), 0);
        Check.same("still in the list", x.object(0, LISTED), 1);
        x.loose(0);
        Check.same("purple again, in the list already", x.object(0, COLOUR), 3);
        x.hold(0);
        x.make(1);
        Check.same("green", x.hold(1), 2);
        Check.same("green stays", x.object(1, COLOUR), 4);
        x.make(4);
        x.make(4);
        x.set(2, 0, 3);
        Check.same("a field counts too", x.hold(3), 3);
        x.loose(0);
        x.loose(0);
        x.loose(0);
        Check.same("a husk is not held", x.hold(0), NONE);
        Check.same("a husk's hands", x.object(0, HANDS), 0);
    }

    private static void promise5Loose() {
        Check.part("promise 5");
        RingHeap x = heap();
        for (int object : new int[] {MIN, -1, 0, 79, 80, MAX}) {
            Check.same("loose(" + object + ")", x.loose(object), NONE);
        }
        x.make(0);
        Check.same("freed at once", x.loose(0), 1);
        Check.same("gone", x.object(0, 0), NONE);
        Check.same("its words are free", x.count(FREE_WORDS), 400);
        x.make(0);
        x.make(4);
        x.set(0, 0, 1);
        Check.same("still held by the field", x.loose(1), 0);
        Check.same("no hand", x.loose(1), NONE);
        Check.same("purple", x.object(1, COLOUR), 3);
        Check.same("a call that answers NONE changes nothing", x.object(1, COUNT), 1);
        x.make(3);
        x.hold(2);
        Check.same("green", x.loose(2), 0);
        Check.same("green stays", x.object(2, COLOUR), 4);
        Check.same("green is never in the list", x.object(2, LISTED), 0);
        Check.same("a wish", x.loose(2), 0);
        Check.same("the wishes are no hand", x.loose(2), NONE);
        Check.same("wishes", x.count(WISHES), 1);
        Check.same("count", x.object(2, COUNT), 1);
        Check.same("green stays in the wishes", x.object(2, COLOUR), 4);
    }

    private static void promise5LooseChains() {
        Check.part("promise 5, chains");
        RingHeap x = heap();
        for (int i = 0; i < 80; i++) {
            x.make(4);
        }
        for (int i = 0; i < 79; i++) {
            x.set(i, 0, i + 1);
        }
        // Each loses its hand while the field holds it: all but the first come into the list,
        // and a collection takes them out of it, or they would be husks.
        for (int i = 79; i > 0; i--) {
            Check.same("loose(" + i + ")", x.loose(i), 0);
        }
        Check.same("all in the list", x.count(IN_LIST), 79);
        x.collect();
        Check.same("the list is empty", x.count(IN_LIST), 0);
        int before = x.count(FREED);
        Check.same("eighty at once", x.loose(0), 80);
        row("the innermost first", freedFrom(x, before, 80), 79, 78, 77);
        Check.same("the outermost last", x.freed(before + 79), 0);

        RingHeap y = heap();
        y.type(5, 6, 0, false);
        y.make(5);
        for (int i = 1; i <= 6; i++) {
            y.make(i % 2 == 0 ? 4 : 1);
            y.set(0, 6 - i, i);
            y.loose(i);
        }
        y.collect();
        y.make(1);
        y.set(2, 0, NONE);
        Check.same("a tree", y.loose(0), 7);
        row("field by field from the first on", freedFrom(y, 0, 7), 6, 5, 4, 3, 2, 1, 0);
    }

    private static void promise5LooseListed() {
        Check.part("promise 5, husks");
        RingHeap x = heap();
        x.make(0);
        x.make(4);
        x.make(2);
        x.hold(0);
        x.loose(0);
        x.set(0, 0, 1);
        x.set(0, 1, 2);
        x.hold(1);
        x.loose(1);
        x.loose(1);
        x.loose(2);
        row("list", list(x, 4), 0, 1, 2, NONE);
        x.weak(3, 0);
        int words = x.count(FREE_WORDS);
        Check.same("nothing is freed yet", x.loose(0), 0);
        Check.same("a husk", x.object(0, HUSK), 1);
        Check.same("what it held is a husk", x.object(1, HUSK), 1);
        Check.same("what has a wish is none", x.object(2, HUSK), 0);
        Check.same("wished", x.count(WISHES), 1);
        Check.same("wished is black", x.object(2, COLOUR), 0);
        Check.same("wished stays in the list", x.object(2, LISTED), 1);
        Check.same("husk is black", x.object(0, COLOUR), 0);
        Check.same("husk's count", x.object(0, COUNT), 0);
        Check.same("husk's fields", x.get(0, 1), NONE);
        Check.same("husk's words", x.count(FREE_WORDS), words);
        Check.same("husk's weak reference", x.seen(3), 0);
        Check.same("husk's at", x.at(0), 0);
        Check.same("the list stays", x.count(IN_LIST), 3);
        Check.same("husks are objects", x.count(OBJECTS), 3);
        Check.same("none freed", x.freed(0), NONE);
        Check.same("collect", x.collect(), 2);
        row("freed", freedFrom(x, 0, 3), 0, 1, NONE);
        Check.same("weak reference has none", x.seen(3), NONE);
        Check.same("the wished one stays", x.object(2, COUNT), 1);
    }

    private static void promise6Set() {
        Check.part("promise 6");
        RingHeap x = heap();
        for (int object : new int[] {MIN, -1, 0, 80, MAX}) {
            Check.same("no such object is ahead of no such field", x.set(object, 99, 0), NONE);
        }
        x.make(0);
        x.make(4);
        x.make(1);
        for (int field : new int[] {MIN, -1, 2, 6, MAX}) {
            Check.throwsOf("set(0, " + field + ")", INDEX, () -> x.set(0, field, 1));
            Check.throwsOf("no such field is ahead of no such held", INDEX, () -> x.set(0, field, 50));
        }
        Check.throwsOf("green has no field", INDEX, () -> x.set(2, 0, NONE));
        for (int held : new int[] {MIN, -2, 3, 79, 80, MAX}) {
            Check.same("set(0, 0, " + held + ")", x.set(0, 0, held), NONE);
        }
        Check.same("nothing changed", x.get(0, 0), NONE);
        Check.same("held", x.set(0, 0, 1), 0);
        Check.same("its count", x.object(1, COUNT), 2);
        Check.same("black", x.object(1, COLOUR), 0);
        Check.same("the holder's count", x.object(0, COUNT), 1);
        Check.same("a wrong one leaves what it held", x.set(0, 0, 44), NONE);
        Check.same("a wrong one leaves what it held", x.get(0, 0), 1);
        Check.same("the same again", x.set(0, 0, 1), 0);
        Check.same("count is as before", x.object(1, COUNT), 2);
        Check.same("but it is purple: it was less, too", x.object(1, COLOUR), 3);
        Check.same("in the list", x.listed(0), 1);
        Check.same("twice", x.set(0, 1, 1), 0);
        Check.same("more makes black", x.object(1, COLOUR), 0);
        Check.same("count", x.object(1, COUNT), 3);
        Check.same("none", x.set(0, 1, NONE), 0);
        Check.same("get", x.get(0, 1), NONE);
        Check.same("none again", x.set(0, 1, NONE), 0);
        Check.same("count", x.object(1, COUNT), 2);
        x.loose(2);
        x.make(1);
        x.set(0, 1, 2);
        x.loose(2);
        Check.same("freed by that", x.set(0, 1, NONE), 1);
        Check.same("itself", x.set(0, 1, 0), 0);
        Check.same("its own count", x.object(0, COUNT), 2);
        x.collect();
        x.loose(1);
        x.collect();
        x.hold(1);
        x.loose(1);
        x.set(0, 0, NONE);
        Check.same("a husk", x.object(1, HUSK), 1);
        Check.same("no husk is held", x.set(0, 0, 1), NONE);
        Check.same("a husk holds none", x.set(1, 0, 0), NONE);
        Check.same("a husk is no object, ahead of the exception", x.set(1, 9, 0), NONE);
    }

    private static void promise6SetOrder() {
        Check.part("promise 6, order");
        RingHeap x = heap();
        x.make(4);
        x.make(4);
        x.set(0, 0, 1);
        x.loose(1);
        x.collect();
        Check.same("more ahead of less", x.set(0, 0, 1), 0);
        Check.same("it did not end", x.object(1, COUNT), 1);
        // 0 and 1 hold one another and nothing else does: what 0 let loose takes 0 away with it.
        RingHeap y = heap();
        y.make(4);
        y.make(4);
        y.make(1);
        y.set(0, 0, 1);
        y.set(1, 0, 0);
        y.loose(0);
        y.loose(1);
        row("list", list(y, 2), 0, 1);
        Check.same("set within a ring", y.set(0, 0, 2), 0);
        Check.same("1 is a husk", y.object(1, HUSK), 1);
        Check.same("0 is a husk", y.object(0, HUSK), 1);
        Check.same("2 was held and let loose again", y.object(2, COUNT), 1);
        Check.same("husk's field", y.get(0, 0), NONE);
        Check.same("collect", y.collect(), 2);
    }

    private static void promise7Get() {
        Check.part("promise 7");
        RingHeap x = heap();
        for (int object : new int[] {MIN, -1, 0, 79, 80, MAX}) {
            Check.throwsOf("get(" + object + ", 0)", INDEX, () -> x.get(object, 0));
        }
        x.make(0);
        x.make(1);
        for (int field : new int[] {MIN, -1, 2, 6, MAX}) {
            Check.throwsOf("get(0, " + field + ")", INDEX, () -> x.get(0, field));
        }
        Check.throwsOf("green has no field", INDEX, () -> x.get(1, 0));
        Check.same("at first", x.get(0, 0), NONE);
        x.set(0, 1, 1);
        Check.same("held", x.get(0, 1), 1);
        Check.same("the other field", x.get(0, 0), NONE);
        x.hold(0);
        x.loose(0);
        x.loose(0);
        Check.same("a husk", x.object(0, HUSK), 1);
        Check.same("a husk's first field", x.get(0, 0), NONE);
        Check.same("a husk's second field", x.get(0, 1), NONE);
        Check.throwsOf("a husk's third field", INDEX, () -> x.get(0, 2));
        Check.same("what a husk held lost a count", x.object(1, COUNT), 1);
    }

    private static void promise8Wish() {
        Check.part("promise 8");
        RingHeap x = heap();
        Check.same("none", x.wish(), NONE);
        x.make(2);
        x.make(3);
        x.make(2);
        Check.same("wish open", x.object(0, WISH_OPEN), 1);
        Check.same("not freed", x.loose(2), 0);
        Check.same("not freed", x.loose(0), 0);
        Check.same("not freed", x.loose(1), 0);
        Check.same("wishes", x.count(WISHES), 3);
        Check.same("told", x.object(0, WISH_OPEN), 0);
        Check.same("no hand", x.object(2, HANDS), 0);
        Check.same("its count", x.object(2, COUNT), 1);
        Check.same("in their order", x.wish(), 2);
        Check.same("a hand", x.object(2, HANDS), 1);
        Check.same("its count", x.object(2, COUNT), 1);
        Check.same("in their order", x.wish(), 0);
        Check.same("in their order", x.wish(), 1);
        Check.same("none", x.wish(), NONE);
        Check.same("none are left", x.count(WISHES), 0);
        Check.same("a wish is told once", x.loose(0), 1);
        Check.same("the number's next object", x.make(2), 0);
        Check.same("has its own wish", x.object(0, WISH_OPEN), 1);
        // Taking a wish is neither more nor less: the colour stays.
        x.loose(0);
        x.hold(0);
        x.loose(0);
        Check.same("purple in the wishes", x.object(0, COLOUR), 3);
        Check.same("wish()", x.wish(), 0);
        Check.same("purple still", x.object(0, COLOUR), 3);
        // A wish keeps what it holds.
        RingHeap y = heap();
        y.make(2);
        y.make(1);
        y.set(0, 0, 1);
        y.loose(1);
        Check.same("loose", y.loose(0), 0);
        Check.same("its field holds still", y.get(0, 0), 1);
        y.wish();
        Check.same("now both go", y.loose(0), 2);
        row("freed", freedFrom(y, 0, 2), 1, 0);
    }

    private static void promise9CollectRings() {
        Check.part("promise 9");
        RingHeap x = heap();
        Check.same("an empty heap", x.collect(), 0);
        Check.same("collections", x.count(COLLECTIONS), 1);
        x.make(0);
        x.make(0);
        x.make(0);
        x.make(1);
        x.set(0, 0, 1);
        x.set(1, 0, 2);
        x.set(2, 0, 0);
        x.set(1, 1, 3);
        x.loose(3);
        x.loose(2);
        x.loose(0);
        x.loose(1);
        row("list", list(x, 4), 2, 0, 1, NONE);
        x.weak(0, 1);
        x.weak(1, 3);
        Check.same("a ring with what it alone held", x.collect(), 4);
        row("by addresses, green ahead of its holder", freedFrom(x, 0, 5), 0, 3, 1, 2, NONE);
        Check.same("weak reference", x.seen(0), NONE);
        Check.same("weak reference", x.seen(1), NONE);
        counts(x, 0, 0, 0, 400, 4, 2, 0, 3, 0);
        // One ring holds another: both go.
        RingHeap y = heap();
        y.make(0);
        y.make(0);
        y.set(0, 0, 0);
        y.set(1, 0, 1);
        y.set(0, 1, 1);
        y.loose(1);
        y.loose(0);
        Check.same("two rings", y.collect(), 2);
        row("freed", freedFrom(y, 0, 2), 0, 1);
        Check.same("numbers are free", y.make(0), 0);
    }

    private static void promise9CollectHeldRings() {
        Check.part("promise 9, held rings");
        RingHeap x = heap();
        x.make(0);
        x.make(0);
        x.make(0);
        x.set(0, 0, 1);
        x.set(1, 0, 0);
        x.set(1, 1, 2);
        x.loose(2);
        x.loose(0);
        Check.same("a hand holds the ring", x.collect(), 0);
        for (int i = 0; i < 3; i++) {
            Check.same("black", x.object(i, COLOUR), 0);
            Check.same("not in the list", x.object(i, LISTED), 0);
        }
        row("counts are back", new int[] {x.object(0, COUNT), x.object(1, COUNT), x.object(2, COUNT)}, 1, 2, 1);
        Check.same("grayed", x.count(GRAYED), 3);
        Check.same("blackened", x.count(BLACKENED), 3);
        Check.same("the list is empty", x.listed(0), NONE);
        x.collect();
        Check.same("nothing is in the list", x.count(GRAYED), 3);
        // What is black in the list is gone through as well.
        x.hold(0);
        x.loose(0);
        x.hold(0);
        Check.same("black in the list", x.object(0, COLOUR), 0);
        x.collect();
        Check.same("grayed even so", x.count(GRAYED), 6);
        Check.same("blackened even so", x.count(BLACKENED), 6);
        x.make(1);
        x.set(0, 1, 3);
        x.hold(0);
        x.loose(0);
        x.collect();
        Check.same("green is not counted in a collection", x.object(3, COUNT), 2);
        Check.same("green stays", x.object(3, COLOUR), 4);
        Check.same("green is not grayed", x.count(GRAYED), 9);
        Check.same("green is not blackened", x.count(BLACKENED), 9);
        // A ring that is gone through from a white one, and is then found to be held.
        RingHeap y = heap();
        y.make(0);
        y.make(4);
        y.make(4);
        y.set(0, 0, 1);
        y.set(1, 0, 2);
        y.set(2, 0, 1);
        y.set(0, 1, 0);
        y.loose(0);
        y.loose(1);
        Check.same("only what nothing holds", y.collect(), 1);
        Check.same("0 is gone", y.object(0, 0), NONE);
        Check.same("1 lost what 0 counted", y.object(1, COUNT), 1);
        Check.same("2", y.object(2, COUNT), 2);
        Check.same("black", y.object(1, COLOUR), 0);
        Check.same("grayed", y.count(GRAYED), 3);
        Check.same("blackened", y.count(BLACKENED), 2);
    }

    private static void promise9CollectWishes() {
        Check.part("promise 9, wishes");
        RingHeap x = heap();
        x.type(5, 1, 10, false);
        x.make(5);
        x.make(2);
        x.make(2);
        x.make(4);
        x.loose(0);
        // 0 comes behind the others in its address: numbers and addresses are not the same order.
        x.make(1);
        x.make(1);
        x.make(0);
        Check.same("address of 5", x.object(5, ADDRESS), 22);
        x.set(1, 0, 2);
        x.set(2, 0, 1);
        x.set(3, 0, 3);
        x.loose(1);
        x.loose(2);
        x.loose(3);
        Check.same("the ring without wish goes", x.collect(), 1);
        Check.same("freed", x.freed(1), 3);
        Check.same("one wish: the other was not white in its turn", x.count(WISHES), 1);
        Check.same("the first by address", x.wish(), 1);
        Check.same("2 has its wish still", x.object(2, WISH_OPEN), 1);
        Check.same("count of 1: the ring and a hand", x.object(1, COUNT), 2);
        Check.same("count of 2", x.object(2, COUNT), 1);
        Check.same("black", x.object(2, COLOUR), 0);
        Check.same("blackened by the wish", x.count(BLACKENED), 2);
        x.loose(1);
        Check.same("now the second wish", x.collect(), 0);
        Check.same("wish of 2", x.wish(), 2);
        x.loose(2);
        Check.same("now both go", x.collect(), 2);
        // Two rings with a wish each, numbers against addresses.
        RingHeap y = heap();
        y.type(5, 0, 2, false);
        y.make(5);
        y.make(2);
        y.make(5);
        y.loose(0);
        y.make(1);
        y.make(2);
        Check.same("3 is ahead of 1", y.object(3, ADDRESS), 0);
        y.set(1, 0, 1);
        y.set(3, 0, 3);
        y.loose(1);
        y.loose(3);
        Check.same("collect", y.collect(), 0);
        Check.same("by addresses", y.wish(), 3);
        Check.same("by addresses", y.wish(), 1);
        y.loose(1);
        y.loose(3);
        Check.same("collect", y.collect(), 2);
        row("freed by addresses", freedFrom(y, 1, 2), 3, 1);
    }

    private static void promise9CollectGreen() {
        Check.part("promise 9, green");
        RingHeap x = heap();
        x.make(0);
        x.make(3);
        x.set(0, 0, 0);
        x.set(0, 1, 1);
        x.loose(1);
        x.loose(0);
        Check.same("green with a wish stays", x.collect(), 1);
        Check.same("wishes", x.count(WISHES), 1);
        Check.same("its count", x.object(1, COUNT), 1);
        Check.same("green", x.object(1, COLOUR), 4);
        // Held by two fields of the ring, and by another one.
        RingHeap y = heap();
        y.type(5, 3, 0, false);
        y.make(5);
        y.make(1);
        y.make(1);
        y.make(4);
        y.set(0, 0, 0);
        y.set(0, 1, 1);
        y.set(0, 2, 1);
        y.loose(1);
        y.set(3, 0, 2);
        y.loose(2);
        y.loose(0);
        Check.same("green held twice goes once", y.collect(), 2);
        row("freed", freedFrom(y, 0, 2), 1, 0);
        y.make(4);
        y.set(0, 0, 0);
        y.set(0, 0, 2);
        y.loose(0);
        Check.same("held by another one", y.object(2, COUNT), 1);
    }

    private static void promise9CollectLong() {
        Check.part("promise 9, the longest ring");
        RingHeap x = heap();
        for (int i = 0; i < 80; i++) {
            x.make(4);
        }
        for (int i = 0; i < 80; i++) {
            x.set(i, 0, (i + 1) % 80);
        }
        for (int i = 0; i < 79; i++) {
            x.loose(i);
        }
        Check.same("held by the last one's hand", x.collect(), 0);
        Check.same("blackened", x.count(BLACKENED), 80);
        x.loose(79);
        Check.same("all of it", x.collect(), 80);
        Check.same("free", x.count(FREE_WORDS), 400);
        Check.same("grayed", x.count(GRAYED), 160);
        // Six fields each, among few objects: no row is too short for fields that hold the same.
        RingHeap y = new RingHeap();
        y.type(0, 6, 0, false);
        for (int i = 0; i < 50; i++) {
            y.make(0);
        }
        for (int i = 0; i < 50; i++) {
            for (int f = 0; f < 6; f++) {
                y.set(i, f, (i * 7 + f * f + 1) % 50);
            }
        }
        for (int i = 0; i < 50; i++) {
            y.loose(i);
        }
        Check.same("a thicket", y.collect(), 50);
        Check.same("grayed once each", y.count(GRAYED), 50);
        Check.same("all words", y.count(FREE_WORDS), 400);
    }

    private static void promise10Pack() {
        Check.part("promise 10");
        RingHeap x = heap();
        Check.same("empty", x.pack(), 0);
        Check.same("moves", x.count(MOVES), 1);
        x.make(0);
        x.make(1);
        x.make(4);
        x.make(0);
        Check.same("nothing to do", x.pack(), 0);
        Check.same("moves even so", x.count(MOVES), 2);
        x.loose(1);
        x.hold(2);
        x.loose(2);
        x.loose(2);
        Check.same("2 is a husk", x.object(2, HUSK), 1);
        Check.same("the husk and the last", x.pack(), 2);
        Check.same("address of the husk", x.object(2, ADDRESS), 4);
        Check.same("address of 3", x.object(3, ADDRESS), 7);
        Check.same("at", x.at(10), 3);
        Check.same("at", x.at(11), NONE);
        Check.same("no collection", x.count(COLLECTIONS), 0);
        Check.same("free words", x.count(FREE_WORDS), 400 - 11);
        x.loose(0);
        x.make(4);
        Check.same("by addresses", x.pack(), 2);
        Check.same("address of 0", x.object(0, ADDRESS), 0);
        Check.same("address of 3", x.object(3, ADDRESS), 6);
    }

    private static void promise11And12Weak() {
        Check.part("promises 11 and 12");
        RingHeap x = heap();
        x.make(0);
        x.make(4);
        for (int w : new int[] {MIN, -1, 20, MAX}) {
            Check.throwsOf("weak(" + w + ")", INDEX, () -> x.weak(w, 0));
            Check.throwsOf("weak(" + w + ") of none", INDEX, () -> x.weak(w, 55));
            Check.throwsOf("seen(" + w + ")", INDEX, () -> x.seen(w));
        }
        Check.same("was to none", x.weak(0, 0), NONE);
        Check.same("was to none", x.weak(19, 0), NONE);
        Check.same("seen", x.seen(19), 0);
        Check.same("it does not count", x.object(0, COUNT), 1);
        Check.same("was to 0", x.weak(0, 1), 0);
        for (int object : new int[] {MIN, -2, 2, 79, 80, MAX}) {
            Check.same("weak(0, " + object + ")", x.weak(0, object), NONE);
            Check.same("nothing changed", x.seen(0), 1);
        }
        Check.same("to none", x.weak(0, NONE), 1);
        Check.same("to none", x.seen(0), NONE);
        Check.same("was to none", x.weak(0, 1), NONE);
        x.loose(0);
        Check.same("freed", x.seen(19), NONE);
        x.make(0);
        Check.same("the number's next object is another one", x.seen(19), NONE);
        x.hold(1);
        x.loose(1);
        x.loose(1);
        Check.same("a husk is seen until it is freed", x.seen(0), 1);
        Check.same("no weak reference to a husk from now on", x.weak(5, 1), NONE);
        Check.same("nothing changed", x.seen(5), NONE);
        x.weak(6, 0);
        Check.same("a husk: nothing changes", x.weak(6, 1), NONE);
        Check.same("a husk: nothing changes", x.seen(6), 0);
        x.collect();
        Check.same("freed", x.seen(0), NONE);
        x.make(2);
        x.weak(7, 1);
        x.loose(1);
        Check.same("a wish: still there", x.seen(7), 1);
        Check.same("among the wishes: may be referred to", x.weak(8, 1), NONE);
        Check.same("seen", x.seen(8), 1);
        x.wish();
        x.loose(1);
        Check.same("freed", x.seen(7), NONE);
        Check.same("freed, all of them", x.seen(8), NONE);
    }

    private static void promise13Object() {
        Check.part("promise 13");
        RingHeap x = heap();
        for (int what : new int[] {MIN, -1, 8, MAX}) {
            Check.throwsOf("object(0, " + what + ")", INDEX, () -> x.object(0, what));
            Check.throwsOf("object(99, " + what + ")", INDEX, () -> x.object(99, what));
        }
        for (int object : new int[] {MIN, -1, 0, 79, 80, MAX}) {
            for (int what = 0; what < 8; what++) {
                Check.same("object(" + object + ", " + what + ")", x.object(object, what), NONE);
            }
        }
        x.make(1);
        x.make(2);
        x.hold(1);
        x.hold(1);
        x.loose(1);
        object(x, 0, 1, 1, 4, 0, 0, 0, 1, 0);
        object(x, 1, 2, 2, 3, 5, 1, 1, 2, 0);
        x.loose(1);
        x.loose(1);
        object(x, 1, 2, 1, 0, 5, 1, 0, 0, 0);
        x.wish();
        object(x, 1, 2, 1, 0, 5, 1, 0, 1, 0);
        x.loose(1);
        object(x, 1, 2, 0, 0, 5, 1, 0, 0, 1);
        x.collect();
        Check.same("gone", x.object(1, 7), NONE);
    }

    private static void promise14Count() {
        Check.part("promise 14");
        RingHeap x = heap();
        for (int what : new int[] {MIN, -1, 9, MAX}) {
            Check.throwsOf("count(" + what + ")", INDEX, () -> x.count(what));
        }
        x.make(0);
        x.make(2);
        x.make(3);
        counts(x, 3, 0, 0, 400 - 4 - 3 - 2, 0, 0, 0, 0, 0);
        x.loose(2);
        x.set(1, 0, 1);
        x.set(0, 0, 1);
        x.loose(1);
        counts(x, 3, 1, 1, 391, 0, 0, 0, 0, 0);
        x.set(0, 0, NONE);
        x.collect();
        counts(x, 3, 0, 2, 391, 0, 1, 0, 1, 1);
        x.wish();
        x.loose(2);
        counts(x, 2, 0, 1, 393, 1, 1, 0, 1, 1);
        x.pack();
        x.wish();
        x.loose(1);
        x.collect();
        counts(x, 1, 0, 0, 396, 2, 2, 1, 2, 1);
    }

    private static void promise15Listed() {
        Check.part("promise 15");
        RingHeap x = heap();
        for (int i = 0; i < 5; i++) {
            x.make(0);
            x.hold(i);
        }
        x.loose(3);
        x.loose(0);
        x.loose(4);
        x.loose(0);
        row("in the order they came, a husk too", list(x, 4), 3, 0, 4, NONE);
        x.hold(3);
        x.loose(3);
        row("it comes once", list(x, 4), 3, 0, 4, NONE);
        for (int i : new int[] {MIN, -1, 3, 79, 80, MAX}) {
            Check.same("listed(" + i + ")", x.listed(i), NONE);
        }
        x.collect();
        Check.same("empty after a collection", x.listed(0), NONE);
        x.loose(4);
        x.hold(2);
        x.loose(2);
        row("anew", list(x, 2), 2, NONE);
    }

    private static void promise16Freed() {
        Check.part("promise 16");
        RingHeap x = heap();
        for (int i = 0; i < 3; i++) {
            x.make(1);
        }
        x.loose(1);
        x.loose(0);
        x.loose(2);
        row("in the order they went", freedFrom(x, 0, 4), 1, 0, 2, NONE);
        for (int i : new int[] {MIN, -1, 3, 100, MAX}) {
            Check.same("freed(" + i + ")", x.freed(i), NONE);
        }
        x.make(1);
        for (int i = 3; i < 100; i++) {
            x.make(i % 2 == 0 ? 1 : 4);
            x.loose(1);
        }
        Check.same("a hundred are told", x.freed(0), 1);
        Check.same("a hundred are told", x.freed(99), 1);
        x.loose(0);
        Check.same("the first is not among the latest", x.freed(0), NONE);
        Check.same("the second is", x.freed(1), 0);
        Check.same("the latest", x.freed(100), 0);
        Check.same("not yet", x.freed(101), NONE);
        x.make(1);
        x.loose(0);
        Check.same("on and on", x.freed(1), NONE);
        Check.same("on and on", x.freed(2), 2);
        Check.same("all are counted", x.count(FREED), 102);
    }

    private static void promise17At() {
        Check.part("promise 17");
        RingHeap x = heap();
        for (int word : new int[] {MIN, -1, 400, MAX}) {
            Check.throwsOf("at(" + word + ")", INDEX, () -> x.at(word));
        }
        x.make(0);
        x.make(1);
        x.make(4);
        row("words", new int[] {x.at(0), x.at(3), x.at(4), x.at(8), x.at(9), x.at(11), x.at(12), x.at(399)},
                0, 0, 1, 1, 2, 2, NONE, NONE);
        x.loose(1);
        row("free again", new int[] {x.at(3), x.at(4), x.at(8), x.at(9)}, 0, NONE, NONE, 2);
        x.hold(2);
        x.loose(2);
        x.loose(2);
        Check.same("a husk has its words", x.at(9), 2);
        x.collect();
        Check.same("until it is freed", x.at(9), NONE);
        x.type(5, 6, 60, false);
        for (int i = 0; i < 5; i++) {
            x.make(5);
        }
        x.type(6, 0, 54, false);
        Check.same("the last word", x.make(6), 6);
        Check.same("the last word", x.at(399), 6);
    }
}
