/** LESS, LET GO, WISHED, MORE and FREED at their edges: the last count and the one before, none held and all held. */
public final class CountingTest extends HeapCase {
    private CountingTest() {
    }

    public static void main(String[] args) {
        theCountOfAnObject();
        coloursAtFirst();
        greenStaysGreen();
        lessToNothing();
        lessToMore();
        lessOfWhatIsPurple();
        lessOfWhatIsListedAndBlack();
        wishesAreToldOnce();
        letGoFieldByField();
        letGoDownToTheLast();
        letGoHoldingOneTwice();
        letGoOfAll();
        letGoOfAllFields();
        letGoLeavesAHusk();
        aHuskIsNoObjectToHold();
        wished();
        wishedWithinLetGo();
        theWishesAreNoHand();
        aFullRowOfWishes();
        wishIsTakenByAHand();
        more();
        aNumberThatIsFreeAgain();
        freedByLoose();
        freedBySet();
        setIsMoreThenLess();
        setWithinItself();
        weakReferencesSeeThemGo();
        Check.end();
    }

    private static void theCountOfAnObject() {
        Check.part("Terms: the COUNT is how many fields (of objects that are there) and HANDS hold it");
        RingHeap x = heap();
        makeMany(x, 3, 0);
        Check.same("one hand", x.object(2, COUNT), 1);
        x.set(0, 0, 2);
        x.set(0, 1, 2);
        x.set(1, 0, 2);
        x.set(2, 1, 2);
        Check.same("four fields", x.object(2, COUNT), 5);
        Check.same("two hands", x.hold(2), 6);
        Check.same("hands are counted apart", x.object(2, HANDS), 2);
        x.loose(0);
        Check.same("the fields of one that went do not count", x.object(2, COUNT), 4);
        x.set(1, 0, NONE);
        x.set(2, 1, NONE);
        Check.same("hands alone", x.object(2, COUNT), 2);
        Check.same("hands are as before", x.object(2, HANDS), 2);
    }

    private static void coloursAtFirst() {
        Check.part("Terms: objects of types without fields are GREEN, others BLACK at first");
        RingHeap x = new RingHeap();
        x.type(0, 0, 60, true);
        x.type(1, 1, 0, true);
        x.make(0);
        x.make(1);
        object(x, 0, 0, 1, GREEN, 0, 0, 1, 1, 0);
        object(x, 1, 1, 1, BLACK, 62, 0, 1, 1, 0);
    }

    private static void greenStaysGreen() {
        Check.part("Terms: GREEN, always. LESS: if it is not GREEN");
        RingHeap x = heap();
        x.make(3);
        x.make(4);
        Check.same("more", x.hold(0), 2);
        Check.same("green", x.object(0, COLOUR), GREEN);
        x.set(1, 0, 0);
        Check.same("green", x.object(0, COLOUR), GREEN);
        Check.same("less", x.loose(0), 0);
        object(x, 0, 3, 2, GREEN, 0, 0, 1, 1, 0);
        Check.same("never in the list", x.count(IN_LIST), 0);
        x.loose(0);
        x.set(1, 0, NONE);
        object(x, 0, 3, 1, GREEN, 0, 0, 0, 0, 0);
        Check.same("wished", x.count(WISHES), 1);
        x.wish();
        Check.same("no husk comes of it", x.loose(0), 1);
        suspect(x, 1);
        x.make(1);
        x.set(1, 0, 0);
        x.collect();
        Check.same("nor gray nor white", x.object(0, COLOUR), GREEN);
    }

    private static void lessToNothing() {
        Check.part("LESS: if it is 0 then, it is ENDED");
        RingHeap x = heap();
        makeMany(x, 3, 0);
        x.hold(0);
        x.hold(0);
        Check.same("3 to 2", x.loose(0), 0);
        Check.same("2 to 1", x.loose(0), 0);
        Check.same("there still", x.object(0, COUNT), 1);
        x.collect();
        Check.same("1 to 0", x.loose(0), 1);
        Check.same("there no more", x.object(0, COUNT), NONE);
        Check.same("no hand was left", x.loose(0), NONE);
        Check.same("1 to 0 at once", x.loose(1), 1);
    }

    private static void lessToMore() {
        Check.part("LESS: if it is more: it becomes PURPLE, and comes behind all in the list");
        RingHeap x = heap();
        makeMany(x, 4, 4);
        suspect(x, 2);
        object(x, 2, 4, 1, PURPLE, 6, 1, 0, 1, 0);
        x.set(3, 0, 0);
        x.set(3, 0, NONE);
        object(x, 0, 4, 1, PURPLE, 0, 1, 0, 1, 0);
        // 3 holds 1 and goes: less of what a field let go.
        x.set(3, 0, 1);
        Check.same("by what held it", x.loose(3), 1);
        object(x, 1, 4, 1, PURPLE, 3, 1, 0, 1, 0);
        row("behind all in it", list(x, 4), 2, 0, 1, NONE);
    }

    private static void lessOfWhatIsPurple() {
        Check.part("LESS: if it is not PURPLE. THE LIST: each is in it once at most");
        RingHeap x = heap();
        makeMany(x, 2, 4);
        x.hold(0);
        x.hold(0);
        x.loose(0);
        suspect(x, 1);
        x.loose(0);
        Check.same("count", x.object(0, COUNT), 1);
        Check.same("purple", x.object(0, COLOUR), PURPLE);
        row("where it was", list(x, 3), 0, 1, NONE);
        Check.same("in the list", x.count(IN_LIST), 2);
    }

    private static void lessOfWhatIsListedAndBlack() {
        Check.part("LESS: PURPLE, and, if it is not in the list, comes behind all in it");
        RingHeap x = heap();
        makeMany(x, 3, 4);
        suspect(x, 1);
        suspect(x, 0);
        x.hold(1);
        Check.same("black in the list", x.object(1, COLOUR), BLACK);
        Check.same("in the list", x.object(1, LISTED), 1);
        x.loose(1);
        Check.same("purple in the list", x.object(1, COLOUR), PURPLE);
        row("where it was", list(x, 3), 1, 0, NONE);
        x.collect();
        suspect(x, 0);
        suspect(x, 1);
        row("anew after a collection", list(x, 3), 0, 1, NONE);
    }

    private static void wishesAreToldOnce() {
        Check.part("LESS: if it has a wish that was not told, it is WISHED, otherwise LET GO");
        for (int type : new int[] {2, 3}) {
            RingHeap x = heap();
            x.make(type);
            Check.same("not told", x.object(0, WISH_OPEN), 1);
            Check.same("wished", x.loose(0), 0);
            Check.same("told", x.object(0, WISH_OPEN), 0);
            Check.same("wish()", x.wish(), 0);
            Check.same("let go", x.loose(0), 1);
            Check.same("not wished again", x.wish(), NONE);
            Check.same("a new object", x.make(type), 0);
            Check.same("with its own wish", x.object(0, WISH_OPEN), 1);
        }
        RingHeap y = heap();
        makeMany(y, 2, 4);
        Check.same("none has a wish here", y.object(0, WISH_OPEN), 0);
        Check.same("let go at once", y.loose(0), 1);
        Check.same("wishes", y.count(WISHES), 0);
    }

    private static void letGoFieldByField() {
        Check.part("LET GO: for each of its fields from the first on: the field holds none, then LESS of that");
        RingHeap x = new RingHeap();
        x.type(0, 6, 0, false);
        x.type(1, 1, 0, false);
        x.type(2, 0, 0, true);
        x.make(0);
        int[] types = {1, 2, 1, 2, 1, 1};
        for (int field = 5; field >= 0; field--) {
            int held = x.make(types[field]);
            x.set(0, field, held);
            if (field != 0 && field != 5) {
                x.loose(held);
            }
        }
        x.collect();
        // Held by fields 0 .. 5: 6 to 1; 6 and 1 keep a hand, 5 and 3 have wishes.
        Check.same("2 and 4 and itself", x.loose(0), 3);
        row("freed, itself last", freedFrom(x, 0, 4), 4, 2, 0, NONE);
        row("listed", list(x, 3), 6, 1, NONE);
        row("wishes", wishes(x, 3), 5, 3, NONE);
        RingHeap y = new RingHeap();
        y.type(0, 6, 0, false);
        y.type(1, 0, 0, false);
        y.make(0);
        makeMany(y, 2, 1);
        y.set(0, 1, 1);
        y.set(0, 5, 2);
        y.loose(1);
        y.loose(2);
        Check.same("fields that hold none between them", y.loose(0), 3);
        row("freed", freedFrom(y, 0, 3), 1, 2, 0);
    }

    private static void letGoDownToTheLast() {
        Check.part("LET GO: LESS of that, and then the next field");
        RingHeap x = heap();
        makeMany(x, 3, 0);
        makeMany(x, 4, 3);
        for (int i = 0; i < 3; i++) {
            x.set(i, 0, 2 * i + 1);
            x.set(i, 1, 2 * i + 2);
        }
        for (int i = 1; i < 7; i++) {
            x.loose(i);
        }
        x.collect();
        // 0 holds 1 and 2, 1 holds 3 and 4, 2 holds 5 and 6; those from 3 on have wishes.
        Check.same("three have none", x.loose(0), 3);
        row("freed", freedFrom(x, 0, 4), 1, 2, 0, NONE);
        row("wishes", wishes(x, 5), 3, 4, 5, 6, NONE);
    }

    private static void letGoHoldingOneTwice() {
        Check.part("LET GO: then LESS of that: the same object in two fields, and in six");
        RingHeap x = heap();
        x.make(0);
        x.make(4);
        x.set(0, 0, 1);
        x.set(0, 1, 1);
        x.loose(1);
        x.collect();
        // The first less leaves one count, so it comes into the list, and the second one makes a husk of it.
        Check.same("the holder alone is freed", x.loose(0), 1);
        Check.same("a husk", x.object(1, HUSK), 1);
        Check.same("in the list", x.listed(0), 1);
        RingHeap y = new RingHeap();
        y.type(0, 6, 0, false);
        y.type(1, 0, 0, false);
        y.make(0);
        y.make(1);
        for (int field = 0; field < 6; field++) {
            y.set(0, field, 1);
        }
        y.loose(1);
        Check.same("six counts", y.object(1, COUNT), 6);
        Check.same("green goes at the sixth", y.loose(0), 2);
        row("ahead of its holder", freedFrom(y, 0, 2), 1, 0);
    }

    private static void letGoOfAll() {
        Check.part("LET GO: all eighty by one call, each held by the one before");
        RingHeap x = heap();
        makeMany(x, 80, 4);
        for (int i = 79; i > 0; i--) {
            x.set(i, 0, i - 1);
            x.loose(i - 1);
        }
        x.collect();
        Check.same("none is in the list", x.count(IN_LIST), 0);
        Check.same("all", x.loose(79), 80);
        Check.same("the innermost first", x.freed(0), 0);
        Check.same("the outermost last", x.freed(79), 79);
        counts(x, 0, 0, 0, 400, 80);
        // The same with all but the first in the list: eighty less one husks.
        RingHeap y = heap();
        makeMany(y, 80, 4);
        for (int i = 79; i > 0; i--) {
            y.set(i, 0, i - 1);
            y.loose(i - 1);
        }
        Check.same("the first alone is freed", y.loose(79), 1);
        counts(y, 79, 79, 0, 400 - 79 * 3, 1);
        Check.same("the last of them is a husk", y.object(0, HUSK), 1);
        Check.same("collect", y.collect(), 79);
        Check.same("in the list's order", y.freed(1), 78);
        Check.same("in the list's order", y.freed(79), 0);
    }

    private static void letGoOfAllFields() {
        Check.part("LET GO: for each of its fields: fifty objects of six fields by one call");
        RingHeap x = new RingHeap();
        x.type(0, 6, 0, false);
        makeMany(x, 50, 0);
        for (int i = 0; i < 49; i++) {
            for (int field = 0; field < 6; field++) {
                x.set(i, field, i + 1);
            }
            x.loose(i + 1);
        }
        // The first of six makes one come into the list, so that all but the first become husks.
        Check.same("the first alone is freed", x.loose(0), 1);
        counts(x, 49, 49, 0, 8, 1);
        Check.same("the last one is a husk", x.object(49, HUSK), 1);
        Check.same("the last one that held", x.get(48, 5), NONE);
        Check.same("collect", x.collect(), 49);
        Check.same("all words", x.count(FREE_WORDS), 400);
    }

    private static void letGoLeavesAHusk() {
        Check.part("LET GO: it becomes BLACK; if it is in the list, it stays there without fields (a HUSK)");
        RingHeap x = heap();
        makeMany(x, 4, 0);
        x.weak(0, 1);
        x.set(1, 0, 2);
        x.set(1, 1, 3);
        suspect(x, 0);
        husk(x, 1);
        object(x, 1, 0, 0, BLACK, 4, 1, 0, 0, 1);
        row("it stays there", list(x, 5), 0, 1, 2, 3, NONE);
        Check.same("its first field", x.get(1, 0), NONE);
        Check.same("its second field", x.get(1, 1), NONE);
        Check.throwsOf("its third field", INDEX, () -> x.get(1, 2));
        Check.same("its words", x.at(7), 1);
        Check.same("its weak reference", x.seen(0), 1);
        counts(x, 4, 4, 0, 400 - 16, 0);
        Check.same("until a collection", x.collect(), 1);
        Check.same("freed then", x.object(1, HUSK), NONE);
        Check.same("weak references have none", x.seen(0), NONE);
        Check.same("its words are free", x.at(7), NONE);
        Check.throwsOf("no fields any more", INDEX, () -> x.get(1, 0));
    }

    private static void aHuskIsNoObjectToHold() {
        Check.part("Promises 4, 5, 6, 11: a husk is none");
        RingHeap x = heap();
        makeMany(x, 2, 4);
        husk(x, 0);
        x.weak(3, 1);
        Check.same("hold", x.hold(0), NONE);
        Check.same("loose", x.loose(0), NONE);
        Check.same("set of it", x.set(0, 0, 1), NONE);
        Check.same("set of it, to none", x.set(0, 0, NONE), NONE);
        Check.same("set of it, no such field", x.set(0, 1, NONE), NONE);
        Check.same("set to it", x.set(1, 0, 0), NONE);
        Check.same("weak to it", x.weak(3, 0), NONE);
        Check.same("as it was", x.seen(3), 1);
        Check.same("count of the other one", x.object(1, COUNT), 1);
        object(x, 0, 4, 0, BLACK, 0, 1, 0, 0, 1);
    }

    private static void wished() {
        Check.part("WISHED: its wish is told now; behind the WISHES; its count is 1; it becomes BLACK");
        RingHeap x = heap();
        makeMany(x, 2, 2);
        x.make(3);
        x.make(1);
        x.set(0, 0, 3);
        x.loose(3);
        suspect(x, 0);
        Check.same("purple before", x.object(0, COLOUR), PURPLE);
        Check.same("not freed", x.loose(0), 0);
        object(x, 0, 2, 1, BLACK, 0, 1, 0, 0, 0);
        Check.same("it keeps what it holds", x.get(0, 0), 3);
        Check.same("not freed", x.loose(2), 0);
        object(x, 2, 3, 1, GREEN, 6, 0, 0, 0, 0);
        Check.same("not freed", x.loose(1), 0);
        object(x, 1, 2, 1, BLACK, 3, 0, 0, 0, 0);
        row("wishes", wishes(x, 4), 0, 2, 1, NONE);
    }

    private static void wishedWithinLetGo() {
        Check.part("WISHED: by what held it, with all that it alone held");
        RingHeap x = heap();
        x.make(4);
        x.make(2);
        x.make(4);
        x.set(0, 0, 1);
        x.set(1, 0, 2);
        x.loose(1);
        x.loose(2);
        x.collect();
        Check.same("the holder alone", x.loose(0), 1);
        object(x, 1, 2, 1, BLACK, 3, 0, 0, 0, 0);
        Check.same("what the wished one holds stays", x.object(2, COUNT), 1);
        Check.same("and is not in the list", x.object(2, LISTED), 0);
        Check.same("wish()", x.wish(), 1);
        Check.same("then both", x.loose(1), 2);
    }

    private static void theWishesAreNoHand() {
        Check.part("Promise 5: no hand holds it. WISHES hold it as one hand does");
        RingHeap x = heap();
        x.make(2);
        x.make(4);
        x.loose(0);
        Check.same("the WISHES alone", x.loose(0), NONE);
        Check.same("count", x.object(0, COUNT), 1);
        Check.same("a hand beside them", x.hold(0), 2);
        Check.same("hands without the WISHES", x.object(0, HANDS), 1);
        Check.same("that hand", x.loose(0), 0);
        Check.same("and no more", x.loose(0), NONE);
        object(x, 0, 2, 1, PURPLE, 0, 1, 0, 0, 0);
        Check.same("a field beside them", x.set(1, 0, 0), 0);
        Check.same("count", x.object(0, COUNT), 2);
        Check.same("a field is no hand", x.loose(0), NONE);
        Check.same("a field alone is no hand", x.set(1, 0, NONE), 0);
        Check.same("the WISHES keep it", x.object(0, COUNT), 1);
    }

    private static void aFullRowOfWishes() {
        Check.part("Promise 8: the first of the WISHES; NONE when there is none: eighty of them");
        RingHeap x = heap();
        Check.same("none", x.wish(), NONE);
        makeMany(x, 80, 3);
        for (int i = 79; i >= 0; i--) {
            x.loose(i);
        }
        Check.same("wishes", x.count(WISHES), 80);
        Check.same("they are objects", x.make(3), FULL);
        for (int i = 79; i >= 0; i--) {
            Check.same("wish()", x.wish(), i);
            Check.same("those left", x.count(WISHES), i);
        }
        Check.same("none any more", x.wish(), NONE);
        Check.same("none any more", x.wish(), NONE);
        Check.same("wishes", x.count(WISHES), 0);
        Check.same("a hand has the first", x.loose(79), 1);
        Check.same("a hand has the last", x.loose(0), 1);
    }

    private static void wishIsTakenByAHand() {
        Check.part("Promise 8: it is held by a hand instead");
        RingHeap x = heap();
        x.make(2);
        x.loose(0);
        object(x, 0, 2, 1, BLACK, 0, 0, 0, 0, 0);
        Check.same("wish()", x.wish(), 0);
        object(x, 0, 2, 1, BLACK, 0, 0, 0, 1, 0);
        Check.same("that hand lets it loose", x.loose(0), 1);
        // One that lost a hand among the WISHES: what holds it changes, its count and colour do not.
        x.make(2);
        x.loose(0);
        suspect(x, 0);
        object(x, 0, 2, 1, PURPLE, 0, 1, 0, 0, 0);
        Check.same("wish()", x.wish(), 0);
        object(x, 0, 2, 1, PURPLE, 0, 1, 0, 1, 0);
        Check.same("wish()", x.wish(), NONE);
        Check.same("held by two hands", x.hold(0), 2);
    }

    private static void more() {
        Check.part("MORE: a count is one more; the object becomes BLACK, if it is not GREEN");
        RingHeap x = heap();
        makeMany(x, 2, 4);
        suspect(x, 0);
        Check.same("by a hand", x.hold(0), 2);
        object(x, 0, 4, 2, BLACK, 0, 1, 0, 2, 0);
        x.loose(0);
        Check.same("by a field", x.set(1, 0, 0), 0);
        object(x, 0, 4, 2, BLACK, 0, 1, 0, 1, 0);
        Check.same("in the list once", x.count(IN_LIST), 1);
    }

    private static void aNumberThatIsFreeAgain() {
        Check.part("FREED: its number too: the next object has nothing of the one before");
        RingHeap x = heap();
        x.make(2);
        x.hold(0);
        x.set(0, 0, 0);
        x.loose(0);
        x.loose(0);
        x.collect();
        x.wish();
        x.set(0, 0, NONE);
        x.loose(0);
        object(x, 0, 2, 0, BLACK, 0, 1, 0, 0, 1);
        x.collect();
        Check.same("the same type", x.make(2), 0);
        object(x, 0, 2, 1, BLACK, 0, 0, 1, 1, 0);
        Check.same("its field", x.get(0, 0), NONE);
        x.loose(0);
        x.wish();
        x.loose(0);
        Check.same("a green type", x.make(1), 0);
        object(x, 0, 1, 1, GREEN, 0, 0, 0, 1, 0);
        Check.throwsOf("no field", INDEX, () -> x.get(0, 0));
        x.loose(0);
        Check.same("two fields", x.make(0), 0);
        object(x, 0, 0, 1, BLACK, 0, 0, 0, 1, 0);
        Check.same("its second field", x.get(0, 1), NONE);
    }

    private static void freedByLoose() {
        Check.part("Promise 5: how many objects were FREED by that");
        RingHeap x = heap();
        makeMany(x, 2, 0);
        makeMany(x, 3, 1);
        x.set(0, 0, 2);
        x.set(0, 1, 3);
        x.loose(2);
        x.set(1, 0, 3);
        x.set(1, 1, 4);
        x.loose(3);
        x.loose(4);
        Check.same("none: held by another", x.loose(4), NONE);
        Check.same("not what another one holds", x.loose(0), 2);
        Check.same("count", x.object(3, COUNT), 1);
        Check.same("all that it alone held", x.loose(1), 3);
        Check.same("freed ever", x.count(FREED), 5);
    }

    private static void freedBySet() {
        Check.part("Promise 6: how many objects were FREED by that");
        RingHeap x = heap();
        makeMany(x, 2, 0);
        makeMany(x, 3, 1);
        Check.same("none before", x.set(0, 0, 1), 0);
        x.set(1, 0, 2);
        x.set(1, 1, 3);
        x.loose(2);
        x.loose(3);
        x.loose(1);
        x.collect();
        Check.same("with all that it alone held", x.set(0, 0, 4), 3);
        row("freed", freedFrom(x, 0, 3), 2, 3, 1);
        x.loose(4);
        Check.same("green", x.set(0, 0, NONE), 1);
        Check.same("none held, none set", x.set(0, 0, NONE), 0);
    }

    private static void setIsMoreThenLess() {
        Check.part("Promise 6: a field holds it from now on (MORE), and no more what it held (behind that LESS)");
        RingHeap x = heap();
        x.make(4);
        x.make(1);
        x.set(0, 0, 1);
        x.loose(1);
        Check.same("green with one count, set where it was", x.set(0, 0, 1), 0);
        Check.same("it did not go", x.object(1, COUNT), 1);
        RingHeap y = heap();
        makeMany(y, 2, 4);
        y.set(0, 0, 1);
        Check.same("set where it was", y.set(0, 0, 1), 0);
        object(y, 1, 4, 2, PURPLE, 3, 1, 0, 1, 0);
        // What is set is held by what is let go alone: it stays, since MORE comes ahead.
        RingHeap z = heap();
        makeMany(z, 2, 4);
        z.make(1);
        z.set(1, 0, 2);
        z.set(0, 0, 1);
        z.loose(2);
        z.loose(1);
        z.collect();
        Check.same("1 goes, what it held stays", z.set(0, 0, 2), 1);
        Check.same("2 is held", z.get(0, 0), 2);
        Check.same("by that field alone", z.object(2, COUNT), 1);
    }

    private static void setWithinItself() {
        Check.part("Promise 6: an object in its own field, and one that goes by its own call");
        RingHeap x = heap();
        x.make(4);
        Check.same("itself", x.set(0, 0, 0), 0);
        Check.same("count", x.object(0, COUNT), 2);
        x.loose(0);
        Check.same("no hand", x.object(0, HANDS), 0);
        Check.same("set without a hand: itself again", x.set(0, 0, 0), 0);
        Check.same("there still", x.object(0, COUNT), 1);
        x.collect();
        Check.same("gone by collecting", x.count(OBJECTS), 0);
        x.make(4);
        x.set(0, 0, 0);
        x.loose(0);
        Check.same("its own field let it go: a husk", x.set(0, 0, NONE), 0);
        Check.same("a husk", x.object(0, HUSK), 1);
        Check.same("collect", x.collect(), 1);
    }

    private static void weakReferencesSeeThemGo() {
        Check.part("FREED: weak references to it have none. Promise 12: what a weak reference is to; NONE");
        RingHeap x = heap();
        makeMany(x, 3, 4);
        x.weak(0, 0);
        x.weak(1, 1);
        x.weak(2, 2);
        x.weak(19, 0);
        x.set(1, 0, 0);
        x.loose(0);
        x.collect();
        Check.same("freed by set()", x.set(1, 0, NONE), 1);
        row("of three", new int[] {x.seen(0), x.seen(1), x.seen(2), x.seen(19)}, NONE, 1, 2, NONE);
        Check.same("freed by loose()", x.loose(1), 1);
        ring(x, 2);
        Check.same("a ring is there", x.seen(2), 2);
        Check.same("freed by collect()", x.collect(), 1);
        Check.same("seen", x.seen(2), NONE);
        makeMany(x, 3, 4);
        row("not to those that have the numbers now", new int[] {x.seen(0), x.seen(1), x.seen(2)}, NONE, NONE, NONE);
        x.weak(0, 0);
        husk(x, 0);
        Check.same("a husk is not FREED", x.seen(0), 0);
        Check.same("what it was to: the husk", x.weak(0, NONE), 0);
        Check.same("and not to it again", x.weak(0, 0), NONE);
        Check.same("to none", x.seen(0), NONE);
    }
}
