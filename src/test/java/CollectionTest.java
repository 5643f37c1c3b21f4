/** A collection's steps at their edges: nothing to do, a count of nothing and of one, all eighty, each in its turn. */
public final class CollectionTest extends HeapCase {
    private CollectionTest() {
    }

    public static void main(String[] args) {
        anEmptyList();
        markTakesHusksOut();
        markTakesGrayOnesOut();
        markGoesThroughBlackOnes();
        markLeavesGreenOnes();
        scanOfOneThatIsHeld();
        scanBlackensWhatIsWhite();
        scanOfRingsThatHoldRings();
        wishesByAddresses();
        wishesAsLongAsTheyAreWhite();
        wishesThatWereTold();
        wishesAreHeldByOneMore();
        wishesKeepWhatTheyHold();
        gatherEmptiesTheList();
        gatherByAddresses();
        gatherEndsGreenOnes();
        gatherLeavesGreenOnesThatAreHeld();
        gatherWishesGreenOnes();
        allInOneRing();
        allInRingsOfTheirOwn();
        allWithWishes();
        allBlackened();
        grayedAndBlackenedInAll();
        whatNothingSuspectsStays();
        howManyWereFreed();
        Check.end();
    }

    private static void anEmptyList() {
        Check.part("Promise 9: a COLLECTION of nothing");
        RingHeap x = heap();
        Check.same("empty heap", x.collect(), 0);
        makeMany(x, 3, 4);
        Check.same("empty list", x.collect(), 0);
        counts(x, 3, 0, 0, 391, 0, 2, 0, 0, 0);
    }

    private static void markTakesHusksOut() {
        Check.part("MARK: for each object of the list, in order: a husk is out of the list, and FREED");
        RingHeap x = heap();
        makeMany(x, 4, 4);
        husk(x, 3);
        ring(x, 2);
        husk(x, 1);
        suspect(x, 0);
        Check.same("two husks and a ring", x.collect(), 3);
        row("the husks first, in the list's order", freedFrom(x, 0, 4), 3, 1, 2, NONE);
        Check.same("husks are not grayed", x.count(GRAYED), 2);
        Check.same("nor blackened", x.count(BLACKENED), 1);
        counts(x, 1, 0, 0, 397, 3);
    }

    private static void markTakesGrayOnesOut() {
        Check.part("MARK: one that is GRAY is out of it. GRAYED: if it is not GRAY");
        RingHeap x = heap();
        makeMany(x, 3, 4);
        for (int i = 0; i < 3; i++) {
            x.set(i, 0, (i + 1) % 3);
        }
        suspect(x, 1);
        suspect(x, 0);
        suspect(x, 2);
        Check.same("held by hands", x.collect(), 0);
        Check.same("each grayed once", x.count(GRAYED), 3);
        Check.same("each blackened once", x.count(BLACKENED), 3);
        row("counts as before", each(x, COUNT, 3), 2, 2, 2);
        row("out of the list", each(x, LISTED, 3), 0, 0, 0);
    }

    private static void markGoesThroughBlackOnes() {
        Check.part("MARK: any other one is GRAYED: one that is BLACK again too");
        RingHeap x = heap();
        makeMany(x, 2, 4);
        x.set(0, 0, 1);
        suspect(x, 0);
        x.hold(0);
        Check.same("black in the list", x.object(0, COLOUR), BLACK);
        Check.same("collect", x.collect(), 0);
        counts(x, 2, 0, 0, 394, 0, 1, 0, 2, 2);
        object(x, 0, 4, 2, BLACK, 0, 0, 0, 2, 0);
        object(x, 1, 4, 2, BLACK, 3, 0, 0, 1, 0);
        // Fields of the ring itself made these two BLACK again: the ring goes all the same.
        RingHeap y = heap();
        makeMany(y, 2, 0);
        y.set(0, 0, 1);
        y.set(1, 0, 0);
        y.loose(0);
        y.loose(1);
        y.set(0, 1, 1);
        y.set(1, 1, 0);
        row("black", each(y, COLOUR, 2), BLACK, BLACK);
        row("in the list", each(y, LISTED, 2), 1, 1);
        Check.same("collect", y.collect(), 2);
    }

    private static void markLeavesGreenOnes() {
        Check.part("MARK: for each field that holds one that is not GREEN");
        RingHeap x = heap();
        x.make(0);
        x.make(1);
        x.make(4);
        x.set(0, 0, 1);
        x.set(0, 1, 2);
        suspect(x, 0);
        x.collect();
        counts(x, 3, 0, 0, 388, 0, 1, 0, 2, 2);
        row("counts as before", each(x, COUNT, 3), 1, 2, 2);
        row("colours", each(x, COLOUR, 3), BLACK, GREEN, BLACK);
    }

    private static void scanOfOneThatIsHeld() {
        Check.part("SCAN: if its count is above 0, BLACKENED; else it becomes WHITE");
        for (int hands = 0; hands <= 2; hands++) {
            RingHeap x = heap();
            makeMany(x, 2, 4);
            x.set(0, 0, 1);
            x.set(1, 0, 0);
            x.loose(1);
            x.hold(0);
            for (int i = 2; i > hands; i--) {
                x.loose(0);
            }
            suspectByField(x);
            Check.same("hands " + hands, x.collect(), hands == 0 ? 2 : 0);
            Check.same("blackened", x.count(BLACKENED), hands == 0 ? 1 : 3);
            Check.same("count", x.object(0, COUNT), hands == 0 ? NONE : 1 + hands);
        }
    }

    /** Object 2 holds 1 for a while, so that it is in the list in any case. */
    private static void suspectByField(RingHeap x) {
        x.make(4);
        x.set(2, 0, 1);
        x.set(2, 0, NONE);
        suspect(x, 2);
    }

    private static void scanBlackensWhatIsWhite() {
        Check.part("SCAN: BLACKENED: that one's count is one more, and, if it is not BLACK, it is BLACKENED");
        RingHeap x = heap();
        makeMany(x, 3, 0);
        // 0 is scanned first and makes 1 WHITE; 2, held by a hand, holds 1 too.
        x.set(0, 0, 0);
        x.set(0, 1, 1);
        x.set(1, 0, 1);
        x.set(2, 0, 1);
        x.loose(1);
        x.collect();
        x.loose(0);
        suspect(x, 2);
        row("list", list(x, 3), 0, 2, NONE);
        Check.same("0 alone", x.collect(), 1);
        row("counts", each(x, COUNT, 3), NONE, 2, 1);
        row("colours", each(x, COLOUR, 3), NONE, BLACK, BLACK);
        Check.same("grayed", x.count(GRAYED), 1 + 3);
        Check.same("blackened", x.count(BLACKENED), 1 + 2);
        x.set(2, 0, NONE);
        Check.same("it goes when nothing else holds it", x.collect(), 1);
    }

    private static void scanOfRingsThatHoldRings() {
        Check.part("SCAN: for each field, what it holds is SCANNED");
        RingHeap x = heap();
        makeMany(x, 4, 0);
        for (int i = 0; i < 3; i++) {
            x.set(i, 0, i);
            x.set(i, 1, i + 1);
        }
        x.set(3, 0, 3);
        x.loose(3);
        x.loose(2);
        x.loose(1);
        Check.same("the first ring's hand holds all", x.collect(), 0);
        row("counts", each(x, COUNT, 4), 2, 2, 2, 2);
        x.loose(0);
        row("the first alone is in the list", list(x, 2), 0, NONE);
        Check.same("all go", x.collect(), 4);
        row("by their addresses", freedFrom(x, 0, 5), 0, 1, 2, 3, NONE);
    }

    private static void wishesByAddresses() {
        Check.part("WISHES: all objects that are WHITE and have a wish that was not told, by their addresses");
        RingHeap x = heap();
        x.type(5, 0, 7, false);
        x.make(5);
        makeMany(x, 2, 2);
        // 3 and 4 come ahead of 1 and 2, at 0 and 3; and 0 at 6.
        x.make(1);
        x.loose(0);
        x.loose(3);
        makeMany(x, 3, 2);
        row("addresses", each(x, ADDRESS, 5), 0, 9, 12, 3, 6);
        for (int i = 4; i >= 0; i--) {
            ring(x, i);
        }
        Check.same("none is freed", x.collect(), 0);
        row("wishes", wishes(x, 6), 0, 3, 4, 1, 2, NONE);
        RingHeap y = heap();
        makeMany(y, 2, 2);
        y.loose(1);
        ring(y, 0);
        y.collect();
        row("behind the WISHES that were", wishes(y, 3), 1, 0, NONE);
    }

    private static void wishesAsLongAsTheyAreWhite() {
        Check.part("WISHES: as long as they are WHITE when their turn comes");
        RingHeap x = heap();
        makeMany(x, 3, 2);
        for (int i = 0; i < 3; i++) {
            x.set(i, 0, (i + 1) % 3);
        }
        for (int i = 2; i >= 0; i--) {
            x.loose(i);
        }
        Check.same("none is freed", x.collect(), 0);
        row("the first of them alone has told its wish", each(x, WISH_OPEN, 3), 0, 1, 1);
        row("its count is one more", each(x, COUNT, 3), 2, 1, 1);
        Check.same("wishes", x.count(WISHES), 1);
        Check.same("wish()", x.wish(), 0);
        x.loose(0);
        Check.same("then the second", x.collect(), 0);
        Check.same("wish()", x.wish(), 1);
        x.loose(1);
        Check.same("then the third", x.collect(), 0);
        Check.same("wish()", x.wish(), 2);
        x.loose(2);
        Check.same("then all", x.collect(), 3);
        // A ring with a wish of its own, held by one that comes later: both turns come.
        RingHeap y = heap();
        y.type(5, 2, 0, true);
        y.make(2);
        y.make(5);
        y.set(1, 0, 1);
        y.set(1, 1, 0);
        y.loose(0);
        y.loose(1);
        Check.same("none is freed", y.collect(), 0);
        row("the held one first, then its holder", wishes(y, 3), 0, 1, NONE);
    }

    private static void wishesThatWereTold() {
        Check.part("WISHES: that have a wish that was not told");
        RingHeap x = heap();
        x.make(2);
        ring(x, 0);
        Check.same("told by a collection", x.collect(), 0);
        Check.same("wish()", x.wish(), 0);
        x.loose(0);
        Check.same("not again", x.collect(), 1);
        x.make(2);
        x.loose(0);
        x.wish();
        ring(x, 0);
        Check.same("told by loose()", x.collect(), 1);
        Check.same("no wishes", x.count(WISHES), 0);
    }

    private static void wishesAreHeldByOneMore() {
        Check.part("WISHES: the wish is told, they come behind the WISHES, their count is one more, and BLACKENED");
        RingHeap x = heap();
        x.make(2);
        ring(x, 0);
        x.collect();
        object(x, 0, 2, 2, BLACK, 0, 0, 0, 0, 0);
        Check.same("blackened", x.count(BLACKENED), 1);
        Check.same("no hand", x.loose(0), NONE);
        suspect(x, 0);
        Check.same("held by the WISHES", x.collect(), 0);
        object(x, 0, 2, 2, BLACK, 0, 0, 0, 0, 0);
        x.wish();
        object(x, 0, 2, 2, BLACK, 0, 0, 0, 1, 0);
    }

    private static void wishesKeepWhatTheyHold() {
        Check.part("WISHES: BLACKENED, with all that they hold, that has no wish");
        RingHeap x = heap();
        x.type(5, 2, 0, true);
        x.make(4);
        x.make(5);
        x.make(4);
        x.make(4);
        x.make(1);
        x.set(1, 0, 1);
        x.set(1, 1, 2);
        x.set(2, 0, 3);
        x.set(3, 0, 2);
        x.set(0, 0, 1);
        for (int i = 3; i >= 1; i--) {
            x.loose(i);
        }
        ring(x, 0);
        Check.same("0 let 1 loose by its own ring", x.object(1, COUNT), 1);
        Check.same("what holds the wished one goes", x.collect(), 1);
        row("counts", each(x, COUNT, 5), NONE, 2, 2, 1, 1);
        row("colours", each(x, COLOUR, 5), NONE, BLACK, BLACK, BLACK, GREEN);
        Check.same("grayed", x.count(GRAYED), 4);
        Check.same("blackened", x.count(BLACKENED), 3);
    }

    private static void gatherEmptiesTheList() {
        Check.part("GATHER: the list is empty (those in it are in it no more)");
        RingHeap x = heap();
        makeMany(x, 5, 4);
        for (int i = 4; i >= 0; i--) {
            suspect(x, i);
        }
        Check.same("none goes", x.collect(), 0);
        Check.same("in the list", x.count(IN_LIST), 0);
        Check.same("listed(0)", x.listed(0), NONE);
        row("what they say", each(x, LISTED, 5), 0, 0, 0, 0, 0);
        Check.same("not a husk any more", x.loose(3), 1);
        suspect(x, 4);
        row("the list anew", list(x, 2), 4, NONE);
    }

    private static void gatherByAddresses() {
        Check.part("GATHER: all that are WHITE, by their addresses, are FREED");
        RingHeap x = heap();
        x.type(5, 0, 7, false);
        x.make(5);
        makeMany(x, 2, 4);
        x.loose(0);
        makeMany(x, 3, 4);
        row("addresses", each(x, ADDRESS, 5), 0, 9, 12, 3, 6);
        for (int i = 0; i < 5; i++) {
            ring(x, i);
        }
        Check.same("five", x.collect(), 5);
        row("freed", freedFrom(x, 1, 6), 0, 3, 4, 1, 2, NONE);
        counts(x, 0, 0, 0, 400, 6, 1, 0, 5, 0);
    }

    private static void gatherEndsGreenOnes() {
        Check.part("GATHER: its fields from the first on: what is GREEN there has a count of one less; ENDED if 0");
        RingHeap x = new RingHeap();
        x.type(0, 4, 0, false);
        x.type(1, 0, 0, false);
        makeMany(x, 4, 1);
        makeMany(x, 2, 0);
        x.set(4, 0, 4);
        x.set(4, 1, 2);
        x.set(4, 2, 0);
        x.set(4, 3, 3);
        x.set(5, 0, 5);
        x.set(5, 1, 1);
        x.set(5, 3, 3);
        for (int i = 0; i < 6; i++) {
            x.loose(i);
        }
        Check.same("all", x.collect(), 6);
        row("field by field, ahead of the holder; the last holder's last", freedFrom(x, 0, 7), 2, 0, 4, 1, 3, 5, NONE);
        RingHeap y = new RingHeap();
        y.type(0, 6, 0, false);
        y.type(1, 0, 0, false);
        y.make(0);
        y.make(1);
        y.set(0, 0, 0);
        for (int field = 1; field < 6; field++) {
            y.set(0, field, 1);
        }
        y.loose(1);
        y.loose(0);
        Check.same("held five times by the same", y.collect(), 2);
        row("freed", freedFrom(y, 0, 3), 1, 0, NONE);
    }

    private static void gatherLeavesGreenOnesThatAreHeld() {
        Check.part("GATHER: what is GREEN there has a count of one less");
        RingHeap x = heap();
        x.make(0);
        makeMany(x, 2, 1);
        x.make(4);
        x.set(0, 0, 0);
        x.set(0, 1, 1);
        x.set(3, 0, 1);
        x.loose(0);
        Check.same("count", x.object(1, COUNT), 3);
        Check.same("the ring alone", x.collect(), 1);
        Check.same("count", x.object(1, COUNT), 2);
        x.loose(1);
        Check.same("by the other field", x.set(3, 0, NONE), 1);
    }

    private static void gatherWishesGreenOnes() {
        Check.part("GATHER: ENDED as in LESS if that is 0: a GREEN one with a wish");
        RingHeap x = heap();
        x.make(3);
        x.make(0);
        x.make(2);
        x.set(1, 0, 1);
        x.set(1, 1, 0);
        x.loose(0);
        x.loose(1);
        ring(x, 2);
        Check.same("the ring alone is freed", x.collect(), 1);
        object(x, 0, 3, 1, GREEN, 0, 0, 0, 0, 0);
        row("behind the WISHES of the step before", wishes(x, 3), 2, 0, NONE);
        Check.same("let go now", x.loose(0), 1);
        x.make(0);
        x.make(3);
        x.loose(1);
        x.wish();
        x.set(0, 0, 0);
        x.set(0, 1, 1);
        x.loose(1);
        x.loose(0);
        Check.same("a wish that was told", x.collect(), 2);
        row("freed", freedFrom(x, 2, 3), 1, 0, NONE);
    }

    private static void allInOneRing() {
        Check.part("A COLLECTION of eighty in one ring");
        RingHeap x = heap();
        makeMany(x, 80, 4);
        for (int i = 0; i < 80; i++) {
            x.set(i, 0, (i + 79) % 80);
        }
        for (int i = 0; i < 80; i++) {
            x.loose(i);
        }
        Check.same("a full list", x.count(IN_LIST), 80);
        Check.same("all", x.collect(), 80);
        counts(x, 0, 0, 0, 400, 80, 1, 0, 80, 0);
        Check.same("by their addresses", x.freed(0), 0);
        Check.same("by their addresses", x.freed(79), 79);
        Check.same("room again", x.make(0), 0);
    }

    private static void allInRingsOfTheirOwn() {
        Check.part("A COLLECTION of eighty rings, found from the last one");
        RingHeap x = heap();
        makeMany(x, 80, 0);
        for (int i = 0; i < 80; i++) {
            x.set(i, 0, i);
            x.set(i, 1, (i + 1) % 80);
        }
        x.loose(79);
        for (int i = 0; i < 79; i++) {
            x.loose(i);
        }
        Check.same("all", x.collect(), 80);
        counts(x, 0, 0, 0, 400, 80, 1, 0, 80, 0);
    }

    private static void allWithWishes() {
        Check.part("A COLLECTION of eighty with wishes, each in its own ring");
        RingHeap x = heap();
        makeMany(x, 80, 2);
        for (int i = 79; i >= 0; i--) {
            ring(x, i);
        }
        Check.same("none is freed", x.collect(), 0);
        counts(x, 80, 0, 80, 160, 0, 1, 0, 80, 80);
        for (int i = 0; i < 80; i++) {
            Check.same("wish()", x.wish(), i);
        }
        Check.same("no more", x.wish(), NONE);
    }

    private static void allBlackened() {
        Check.part("A COLLECTION of eighty that one hand holds");
        RingHeap x = heap();
        makeMany(x, 80, 4);
        for (int i = 0; i < 80; i++) {
            x.set(i, 0, (i + 1) % 80);
        }
        for (int i = 79; i > 0; i--) {
            x.loose(i);
        }
        Check.same("none", x.collect(), 0);
        counts(x, 80, 0, 0, 160, 0, 1, 0, 80, 80);
        Check.same("the last one's count", x.object(79, COUNT), 1);
        Check.same("the held one's count", x.object(0, COUNT), 2);
        x.loose(0);
        row("it alone is in the list", list(x, 2), 0, NONE);
        Check.same("all", x.collect(), 80);
    }

    private static void grayedAndBlackenedInAll() {
        Check.part("Promise 14: 7 objects that were GRAYED, 8 BLACKENED, in all");
        RingHeap x = heap();
        makeMany(x, 3, 4);
        for (int round = 1; round <= 3; round++) {
            suspect(x, 0);
            suspect(x, 1);
            x.collect();
            counts(x, 3, 0, 0, 391, 0, round, 0, 2 * round, 2 * round);
        }
        suspect(x, 0);
        x.loose(0);
        x.collect();
        Check.same("a husk is neither", x.count(GRAYED), 6);
        ring(x, 1);
        x.collect();
        Check.same("a ring is grayed", x.count(GRAYED), 7);
        Check.same("and not blackened", x.count(BLACKENED), 6);
        x.make(2);
        ring(x, 0);
        x.collect();
        Check.same("a wish is grayed", x.count(GRAYED), 8);
        Check.same("and blackened in the third step", x.count(BLACKENED), 7);
    }

    private static void whatNothingSuspectsStays() {
        Check.part("THE LIST: what is not in it, and not reached from it, is not collected");
        RingHeap x = heap();
        makeMany(x, 2, 4);
        x.set(0, 0, 0);
        x.hold(1);
        x.loose(0);
        x.hold(0);
        x.collect();
        Check.same("a ring with a hand", x.object(0, COUNT), 2);
        x.loose(0);
        x.set(1, 0, 0);
        x.collect();
        Check.same("a ring with a holder", x.object(0, COUNT), 2);
        Check.same("no list", x.count(IN_LIST), 0);
        x.collect();
        Check.same("the ring stays", x.object(0, COUNT), 2);
        x.set(1, 0, NONE);
        Check.same("the ring goes", x.collect(), 1);
    }

    private static void howManyWereFreed() {
        Check.part("Promise 9: how many objects were FREED by it");
        RingHeap x = heap();
        makeMany(x, 2, 4);
        x.make(0);
        x.make(1);
        x.make(2);
        husk(x, 0);
        ring(x, 1);
        x.set(2, 1, 3);
        x.loose(3);
        ring(x, 2);
        ring(x, 4);
        Check.same("a husk, two rings, a green one", x.collect(), 4);
        Check.same("freed ever", x.count(FREED), 4);
        Check.same("the one with a wish stays", x.count(OBJECTS), 1);
        Check.same("not again", x.collect(), 0);
    }
}
