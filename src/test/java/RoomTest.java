/** Room for a new object: an empty heap, one full of objects, of words, and of words in pieces. */
public final class RoomTest extends HeapCase {
    private RoomTest() {
    }

    public static void main(String[] args) {
        anEmptyHeap();
        aHeapThatIsEmptyAgain();
        aHeapFullOfObjects();
        aNumberByCollecting();
        aNumberOfAHusk();
        aNumberByCollectingAndWordsByMoving();
        aHeapFullOfWords();
        theLastWords();
        theLeastAddress();
        wordsByCollecting();
        wordsOfAHusk();
        wordsInPieces();
        oneWordTooFew();
        noMoveWithoutANumber();
        noMoveWhenCollectingIsEnough();
        movedInTheOrderOfAddresses();
        whatIsMovedStaysAsItIs();
        whatWasCollectedIsSo();
        noSuchTypeIsAheadOfFull();
        packOfAnEmptyAndAFullHeap();
        packOfOneWordPieces();
        packMovesHusks();
        Check.end();
    }

    /** Types by their words: type 0 has size words and one field, type 1 is green and has small words. */
    private static RingHeap sized(int size, int small) {
        RingHeap x = new RingHeap();
        x.type(0, 1, size - 3, false);
        x.type(1, 0, small - 2, false);
        return x;
    }

    /** Collections made, times that all were moved, words that are free. */
    private static void work(RingHeap x, int collections, int moves, int freeWords) {
        Check.same("collections", x.count(COLLECTIONS), collections);
        Check.same("moves", x.count(MOVES), moves);
        Check.same("free words", x.count(FREE_WORDS), freeWords);
    }

    private static void anEmptyHeap() {
        Check.part("Promise 1: an empty heap");
        RingHeap x = new RingHeap();
        counts(x, 0, 0, 0, 400, 0, 0, 0, 0, 0);
        Check.same("collect()", x.collect(), 0);
        Check.same("pack()", x.pack(), 0);
        Check.same("wish()", x.wish(), NONE);
        counts(x, 0, 0, 0, 400, 0, 1, 1, 0, 0);
        alike("types leave it empty", y -> y.type(0, 6, 60, true), y -> {
        });
    }

    private static void aHeapThatIsEmptyAgain() {
        Check.part("Terms: FREED: its words are free, its number too");
        RingHeap x = sized(5, 4);
        makeMany(x, 80, 0);
        for (int i = 0; i < 80; i++) {
            Check.same("loose", x.loose(i), 1);
        }
        work(x, 0, 0, 400);
        Check.same("objects", x.count(OBJECTS), 0);
        Check.same("its number again", x.make(1), 0);
        Check.same("its words again", x.object(0, ADDRESS), 0);
    }

    private static void aHeapFullOfObjects() {
        Check.part("ROOM: ... and a number. Full of objects with words left");
        RingHeap x = sized(3, 2);
        makeMany(x, 79, 1);
        Check.same("the last number", x.make(1), 79);
        work(x, 0, 0, 240);
        Check.same("no number", x.make(1), FULL);
        work(x, 1, 0, 240);
        Check.same("no number still", x.make(1), FULL);
        work(x, 2, 0, 240);
        x.loose(79);
        Check.same("a number, and no collection for it", x.make(0), 79);
        work(x, 2, 0, 239);
    }

    private static void aNumberByCollecting() {
        Check.part("ROOM: if there is not, a collection is made, and one looks again: a number");
        RingHeap x = sized(3, 2);
        makeMany(x, 80, 0);
        ring(x, 63);
        ring(x, 64);
        Check.same("the least that became free", x.make(0), 63);
        work(x, 1, 0, 163);
        Check.same("the other one, without a collection", x.make(0), 64);
        Check.same("collections", x.count(COLLECTIONS), 1);
        Check.same("no more", x.make(0), FULL);
    }

    private static void aNumberOfAHusk() {
        Check.part("ROOM: a number: a husk has one until a collection");
        RingHeap x = sized(3, 2);
        makeMany(x, 80, 0);
        for (int i = 0; i < 80; i++) {
            husk(x, i);
        }
        Check.same("eighty husks", x.count(OBJECTS), 80);
        Check.same("all in the list", x.listed(79), 79);
        Check.same("make", x.make(0), 0);
        work(x, 1, 0, 397);
        Check.same("they were freed", x.count(FREED), 80);
        Check.same("in the list's order", x.freed(79), 79);
    }

    private static void aNumberByCollectingAndWordsByMoving() {
        Check.part("ROOM: if there is a number (by the collection), all objects are MOVED");
        RingHeap x = sized(6, 4);
        x.type(2, 0, 38, false);
        // 40 of 6 and 40 of 4 words, in turn: nothing is free, and no number.
        for (int i = 0; i < 40; i++) {
            x.make(0);
            x.make(1);
        }
        work(x, 0, 0, 0);
        for (int i = 0; i < 14; i += 2) {
            ring(x, i);
        }
        Check.same("seven pieces of six for forty", x.make(2), 0);
        work(x, 1, 1, 2);
        Check.same("behind all others", x.object(0, ADDRESS), 358);
        Check.same("the last word that is free", x.at(399), NONE);
        Check.same("the first word that is free", x.at(398), NONE);
        Check.same("the last word that is not", x.at(397), 0);
    }

    private static void aHeapFullOfWords() {
        Check.part("ROOM: full of words, with numbers left");
        RingHeap x = sized(50, 2);
        makeMany(x, 8, 0);
        work(x, 0, 0, 0);
        Check.same("the smallest object", x.make(1), FULL);
        work(x, 1, 0, 0);
        Check.same("objects", x.count(OBJECTS), 8);
        x.loose(7);
        Check.same("exactly as much as became free", x.make(0), 7);
        work(x, 1, 0, 0);
    }

    private static void theLastWords() {
        Check.part("ROOM: the least address at which there is as much free: the last words");
        for (int left = 0; left <= 3; left++) {
            RingHeap x = sized(49, 2);
            makeMany(x, 8, 0);
            x.type(2, 0, 8 - 2 - left, false);
            x.make(2);
            Check.same("words left", x.count(FREE_WORDS), left);
            Check.same("two words of " + left, x.make(1), left < 2 ? FULL : 9);
            work(x, left < 2 ? 1 : 0, 0, left < 2 ? left : left - 2);
            if (left == 2) {
                Check.same("up to the last word", x.at(399), 9);
                Check.same("from its address on", x.object(9, ADDRESS), 398);
            }
        }
    }

    private static void theLeastAddress() {
        Check.part("ROOM: the least address at which there is as much free");
        // For objects of 2 .. 8 words: each piece by its last word, then one word more.
        leastAddresses(new int[] {4, 5, 5, 6}, 0, 0, 0, 6, 20, 28, 28);
        // The least address, neither the piece that fits best nor the largest one.
        leastAddresses(new int[] {5, 4, 7, 6}, 0, 0, 0, 0, 13, 13, 30);
        leastAddresses(new int[] {3, 3, 6, 2}, 0, 0, 10, 10, 10, 22, 22);
    }

    /** Pieces that are free, with objects of two words between them, and where objects of 2 .. 8 words come then. */
    private static void leastAddresses(int[] pieces, int... due) {
        for (int size = 2; size <= 8; size++) {
            RingHeap x = new RingHeap();
            x.type(0, 0, 0, false);
            for (int i = 0; i < pieces.length; i++) {
                x.type(i + 1, 0, pieces[i] - 2, false);
                x.make(i + 1);
                x.make(0);
            }
            for (int i = 0; i < pieces.length; i++) {
                x.loose(2 * i);
            }
            x.type(9, 0, size - 2, false);
            Check.same("make", x.make(9), 0);
            Check.same("address for " + size, x.object(0, ADDRESS), due[size - 2]);
            Check.same("its first word", x.at(due[size - 2]), 0);
            Check.same("its last word", x.at(due[size - 2] + size - 1), 0);
            Check.same("no collection", x.count(COLLECTIONS), 0);
        }
    }

    private static void wordsByCollecting() {
        Check.part("ROOM: if there is not, a collection is made, and one looks again: an address");
        RingHeap x = sized(50, 2);
        makeMany(x, 8, 0);
        ring(x, 3);
        ring(x, 5);
        Check.same("the least address that became free", x.make(0), 3);
        Check.same("address", x.object(3, ADDRESS), 150);
        work(x, 1, 0, 50);
        Check.same("the other one, without a collection", x.make(0), 5);
        work(x, 1, 0, 0);
    }

    private static void wordsOfAHusk() {
        Check.part("ROOM: a husk has its words until a collection");
        RingHeap x = sized(50, 2);
        makeMany(x, 8, 0);
        husk(x, 0);
        work(x, 0, 0, 0);
        Check.same("its words are not free", x.at(49), 0);
        Check.same("after the collection they are", x.make(0), 0);
        work(x, 1, 0, 0);
        Check.same("freed", x.freed(0), 0);
    }

    private static void wordsInPieces() {
        Check.part("ROOM: no such address still, but as much free in all: all objects are MOVED down");
        RingHeap x = sized(25, 3);
        makeMany(x, 16, 0);
        for (int i = 0; i < 16; i += 2) {
            x.loose(i);
        }
        x.type(2, 0, 49, false);
        work(x, 0, 0, 200);
        Check.same("in the pieces as long as it fits", x.make(0), 0);
        work(x, 0, 0, 175);
        Check.same("51 words are in no piece", x.make(2), 2);
        work(x, 1, 1, 124);
        Check.same("just behind the last one", x.object(2, ADDRESS), 225);
        Check.same("the last one", x.object(15, ADDRESS), 200);
        RingHeap y = sized(25, 3);
        makeMany(y, 16, 0);
        y.loose(4);
        y.loose(11);
        y.type(2, 0, 48, false);
        Check.same("exactly as much as is free in all", y.make(2), 4);
        work(y, 1, 1, 0);
        Check.same("address", y.object(4, ADDRESS), 350);
        Check.same("its last word", y.at(399), 4);
        Check.same("the one before", y.at(349), 15);
    }

    private static void oneWordTooFew() {
        Check.part("ROOM: else it is FULL: one word less than it takes");
        alike("nothing moves for it", y -> {
            oneWordTooFewIn(y);
            y.make(2);
        }, y -> {
            oneWordTooFewIn(y);
            y.collect();
        });
        RingHeap x = new RingHeap();
        oneWordTooFewIn(x);
        Check.same("51 of 50", x.make(2), FULL);
        work(x, 1, 0, 50);
    }

    private static void oneWordTooFewIn(RingHeap x) {
        x.type(0, 1, 22, false);
        makeMany(x, 16, 0);
        x.loose(4);
        x.loose(11);
        x.type(2, 0, 49, false);
    }

    private static void noMoveWithoutANumber() {
        Check.part("ROOM: if there is a number, no such address still, but as much free in all");
        RingHeap x = sized(4, 2);
        x.type(2, 0, 38, false);
        x.type(3, 0, 40, false);
        x.make(2);
        makeMany(x, 78, 0);
        Check.same("the eightieth", x.make(2), 79);
        x.loose(0);
        Check.same("in the piece at the start", x.make(1), 0);
        work(x, 0, 0, 38 + 8);
        Check.same("as much free in all, but no number", x.make(3), FULL);
        work(x, 1, 0, 46);
        Check.same("nothing moved", x.object(1, ADDRESS), 40);
        x.loose(0);
        Check.same("with a number", x.make(3), 0);
        work(x, 2, 1, 48 - 42);
    }

    private static void noMoveWhenCollectingIsEnough() {
        Check.part("ROOM: no such address still: nothing is moved when the collection made a place");
        RingHeap x = sized(50, 10);
        makeMany(x, 7, 0);
        makeMany(x, 5, 1);
        // 50 in pieces of ten, were they moved together; and a ring of 50.
        x.loose(7);
        x.loose(9);
        x.loose(11);
        ring(x, 2);
        Check.same("where the ring was", x.make(0), 2);
        Check.same("address", x.object(2, ADDRESS), 100);
        work(x, 1, 0, 30);
    }

    private static void movedInTheOrderOfAddresses() {
        Check.part("ROOM: MOVED down, by their addresses, each to just behind the one before");
        RingHeap x = sized(50, 10);
        x.type(2, 0, 60, false);
        makeMany(x, 8, 0);
        for (int object : new int[] {0, 1, 2, 4}) {
            x.loose(object);
        }
        makeMany(x, 2, 1);
        x.make(0);
        makeMany(x, 2, 1);
        row("numbers and addresses are not in one order", each(x, ADDRESS, 9), 0, 10, 20, 150, 70, 250, 300, 350, 80);
        x.loose(0);
        Check.same("62 words", x.make(2), 0);
        row("all by their addresses", each(x, ADDRESS, 9), 280, 0, 10, 80, 60, 130, 180, 230, 70);
        work(x, 1, 1, 58);
    }

    private static void whatIsMovedStaysAsItIs() {
        Check.part("ROOM: MOVED: nothing but the addresses");
        alike("by make and by hand", x -> {
            someObjects(x);
            x.make(5);
        }, x -> {
            someObjects(x);
            x.collect();
            x.pack();
            x.make(5);
        });
        RingHeap x = new RingHeap();
        someObjects(x);
        Check.same("make", x.make(5), 1);
        Check.same("moves", x.count(MOVES), 1);
        Check.same("a field", x.get(0, 0), 3);
        Check.same("a weak reference", x.seen(4), 3);
        row("the wishes", wishes(x, 3), 5, 4, NONE);
    }

    private static void someObjects(RingHeap x) {
        x.type(0, 1, 57, false);
        x.type(1, 1, 57, true);
        x.type(5, 2, 60, false);
        makeMany(x, 4, 0);
        makeMany(x, 2, 1);
        x.set(0, 0, 3);
        x.weak(4, 3);
        x.weak(5, 1);
        x.loose(5);
        x.loose(4);
        x.hold(3);
        x.loose(3);
        x.loose(1);
    }

    private static void whatWasCollectedIsSo() {
        Check.part("Promise 3: FULL (what was collected is so all the same)");
        RingHeap x = heap();
        x.type(5, 6, 60, false);
        makeMany(x, 5, 5);
        makeMany(x, 15, 4);
        Check.same("free words", x.count(FREE_WORDS), 15);
        ring(x, 7);
        husk(x, 9);
        x.make(2);
        ring(x, 20);
        x.weak(0, 7);
        x.weak(1, 9);
        Check.same("FULL", x.make(5), FULL);
        row("freed", freedFrom(x, 0, 3), 9, 7, NONE);
        counts(x, 19, 0, 1, 400 - 5 * 68 - 14 * 3, 2, 1, 0, 2, 1);
        Check.same("a weak reference", x.seen(0), NONE);
        Check.same("a weak reference", x.seen(1), NONE);
        Check.same("the wish", x.wish(), 20);
        alike("as by collect()", y -> {
            someRings(y);
            y.make(5);
        }, y -> {
            someRings(y);
            y.collect();
        });
    }

    private static void someRings(RingHeap x) {
        x.type(0, 1, 0, false);
        x.type(5, 6, 60, false);
        makeMany(x, 5, 5);
        makeMany(x, 15, 0);
        ring(x, 7);
        husk(x, 9);
    }

    private static void noSuchTypeIsAheadOfFull() {
        Check.part("Promise 3: IndexOutOfBoundsException (also of a type that was not told), ahead of FULL");
        for (int type : new int[] {MIN, -1, 3, 9, 10, MAX}) {
            RingHeap x = sized(50, 2);
            makeMany(x, 8, 0);
            ring(x, 2);
            Check.throwsOf("make(" + type + ")", INDEX, () -> x.make(type));
            work(x, 0, 0, 0);
            Check.same("the ring stands", x.object(2, COUNT), 1);
        }
    }

    private static void packOfAnEmptyAndAFullHeap() {
        Check.part("Promise 10: how many have another address: an empty heap and a full one");
        RingHeap x = sized(50, 25);
        Check.same("empty", x.pack(), 0);
        makeMany(x, 8, 0);
        Check.same("full", x.pack(), 0);
        x.loose(7);
        Check.same("free at the end alone", x.pack(), 0);
        x.loose(0);
        Check.same("free at the start: all", x.pack(), 6);
        Check.same("times moved, also when none got another address", x.count(MOVES), 4);
        row("addresses", each(x, ADDRESS, 7), NONE, 0, 50, 100, 150, 200, 250);
        Check.same("and not again", x.pack(), 0);
        x.loose(6);
        x.loose(3);
        Check.same("those behind the piece alone", x.pack(), 2);
    }

    private static void packOfOneWordPieces() {
        Check.part("Promise 10: moved by one word, over its own words");
        RingHeap x = sized(60, 2);
        x.type(2, 0, 1, false);
        x.make(2);
        makeMany(x, 2, 0);
        x.loose(0);
        x.make(1);
        Check.same("a piece of one word", x.at(2), NONE);
        Check.same("two", x.pack(), 2);
        row("addresses", each(x, ADDRESS, 3), 0, 2, 62);
        Check.same("the last word of 1", x.at(61), 1);
        Check.same("the first word of 2", x.at(62), 2);
        Check.same("the last word of 2", x.at(121), 2);
        Check.same("behind it", x.at(122), NONE);
        work(x, 0, 1, 278);
    }

    private static void packMovesHusks() {
        Check.part("ROOM: all objects (husks, too) are MOVED down");
        RingHeap x = heap();
        makeMany(x, 4, 4);
        husk(x, 2);
        x.loose(0);
        Check.same("one, the husk, three", x.pack(), 3);
        row("addresses", each(x, ADDRESS, 4), NONE, 0, 3, 6);
        Check.same("a husk still", x.object(2, HUSK), 1);
        Check.same("in the list still", x.listed(0), 2);
        Check.same("its words go with it", x.at(5), 2);
        Check.same("collect", x.collect(), 1);
        Check.same("free again where it stood then", x.at(5), NONE);
        Check.same("and the one behind stays", x.at(6), 3);
    }
}
