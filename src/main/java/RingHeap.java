/**
 * A heap of counted objects: what nothing counts goes at once, rings are found by trial, and room is
 * found by place, by collecting and by moving. ../shared/DOC.md says what each call answers.
 */
public final class RingHeap {
    public static final int NONE = -1, FULL = -2;

    private static final int TYPES = 10, MOST_FIELDS = 6, MOST_EXTRA = 60, HEAD_WORDS = 2;
    private static final int OBJECTS = 80, WORDS = 400, WEAK_REFERENCES = 20, FREED_TOLD = 100;
    private static final int OBJECT_WHATS = 8, COUNT_WHATS = 9;
    private static final int BLACK = 0, GRAY = 1, WHITE = 2, PURPLE = 3, GREEN = 4;

    /** Letting go takes at most a step for each field of each object, and one for the object itself. */
    private static final int MOST_STEPS = OBJECTS * (MOST_FIELDS + 1);

    private final Kind[] kinds = new Kind[TYPES];
    private final Store store = new Store();
    private final Counting counting = new Counting(store);
    private final Collector collector = new Collector(store, counting);
    private int moves;

    public RingHeap() {
    }

    public boolean type(int type, int fields, int extra, boolean wish)
            throws IndexOutOfBoundsException, IllegalArgumentException {
        if (type < 0 || type >= TYPES) {
            throw new IndexOutOfBoundsException("no such type");
        }
        if (fields < 0 || fields > MOST_FIELDS || extra < 0 || extra > MOST_EXTRA) {
            throw new IllegalArgumentException("too few or too many fields or extra words");
        }
        if (kinds[type] != null) {
            return false;
        }
        kinds[type] = new Kind(type, fields, HEAD_WORDS + fields + extra, wish);
        return true;
    }

    public int make(int type) throws IndexOutOfBoundsException {
        if (type < 0 || type >= TYPES || kinds[type] == null) {
            throw new IndexOutOfBoundsException("no such type");
        }
        Kind kind = kinds[type];
        if (!store.hasRoomFor(kind)) {
            collector.run();
            if (!store.hasRoomFor(kind) && !makeRoomByMoving(kind)) {
                return FULL;
            }
        }
        return store.place(kind);
    }

    public int hold(int object) {
        Thing thing = store.living(object);
        if (thing == null) {
            return NONE;
        }
        thing.hands++;
        counting.more(thing);
        return thing.count;
    }

    public int loose(int object) {
        Thing thing = store.living(object);
        if (thing == null || thing.hands == 0) {
            return NONE;
        }
        thing.hands--;
        return counting.less(thing);
    }

    public int set(int object, int field, int held) throws IndexOutOfBoundsException {
        Thing holder = store.living(object);
        if (holder == null) {
            return NONE;
        }
        if (!holder.hasField(field)) {
            throw new IndexOutOfBoundsException("no such field");
        }
        Thing next = store.living(held);
        if (next == null && held != NONE) {
            return NONE;
        }
        Thing last = holder.held[field];
        holder.held[field] = next;
        // First more, then less: an object that is set again where it was must not end between.
        if (next != null) {
            counting.more(next);
        }
        return last == null ? 0 : counting.less(last);
    }

    public int get(int object, int field) throws IndexOutOfBoundsException {
        Thing holder = store.thing(object);
        if (holder == null || !holder.hasField(field)) {
            throw new IndexOutOfBoundsException("no such object or field");
        }
        return numberOf(holder.held[field]);
    }

    public int wish() {
        Thing thing = counting.wishes.takeFirst();
        if (thing == null) {
            return NONE;
        }
        // The hand takes the place of the wishes, so the count and the colour stay.
        thing.hands++;
        return thing.number;
    }

    public int collect() {
        return collector.run();
    }

    public int pack() {
        moves++;
        return store.words.moveAllDown();
    }

    public int weak(int w, int object) throws IndexOutOfBoundsException {
        if (w < 0 || w >= WEAK_REFERENCES) {
            throw new IndexOutOfBoundsException("no such weak reference");
        }
        Thing next = store.living(object);
        if (next == null && object != NONE) {
            return NONE;
        }
        int last = numberOf(store.weaks[w]);
        store.weaks[w] = next;
        return last;
    }

    public int seen(int w) throws IndexOutOfBoundsException {
        if (w < 0 || w >= WEAK_REFERENCES) {
            throw new IndexOutOfBoundsException("no such weak reference");
        }
        return numberOf(store.weaks[w]);
    }

    public int object(int object, int what) throws IndexOutOfBoundsException {
        if (what < 0 || what >= OBJECT_WHATS) {
            throw new IndexOutOfBoundsException("no such what");
        }
        Thing thing = store.thing(object);
        return thing == null ? NONE : thing.tell(what);
    }

    public int count(int what) throws IndexOutOfBoundsException {
        if (what < 0 || what >= COUNT_WHATS) {
            throw new IndexOutOfBoundsException("no such what");
        }
        switch (what) {
            case 0: return store.thingsThere;
            case 1: return counting.list.length;
            case 2: return counting.wishes.length;
            case 3: return store.words.free;
            case 4: return store.freedEver;
            case 5: return collector.collections;
            case 6: return moves;
            case 7: return collector.grayed;
            default: return collector.blackened;
        }
    }

    public int listed(int i) {
        return numberOf(counting.list.item(i));
    }

    public int freed(int i) {
        return store.freedNumber(i);
    }

    public int at(int word) throws IndexOutOfBoundsException {
        if (word < 0 || word >= WORDS) {
            throw new IndexOutOfBoundsException("no such word");
        }
        return numberOf(store.words.owner(word));
    }

    private boolean makeRoomByMoving(Kind kind) {
        if (store.leastFreeNumber() == NONE || store.words.free < kind.size) {
            return false;
        }
        moves++;
        store.words.moveAllDown();
        return true;
    }

    private static int numberOf(Thing thing) {
        return thing == null ? NONE : thing.number;
    }

    /** A type as it was told. */
    private static final class Kind {
        final int number;
        final int fields;
        final int size;
        final boolean wish;

        Kind(int number, int fields, int size, boolean wish) {
            this.number = number;
            this.fields = fields;
            this.size = size;
            this.wish = wish;
        }
    }

    /** An object of the heap, a husk too; a field that holds none has null. */
    private static final class Thing {
        final int number;
        final Kind kind;
        final Thing[] held;
        int count = 1;
        int hands = 1;
        int colour;
        int address;
        int nextField;
        boolean inList;
        boolean wishUntold;
        boolean husk;

        Thing(int number, Kind kind) {
            this.number = number;
            this.kind = kind;
            this.held = new Thing[MOST_FIELDS];
            this.colour = kind.fields == 0 ? GREEN : BLACK;
            this.wishUntold = kind.wish;
        }

        boolean hasField(int field) {
            return field >= 0 && field < kind.fields && field < held.length;
        }

        boolean isGreen() {
            return colour == GREEN;
        }

        void blackenUnlessGreen() {
            if (!isGreen()) {
                colour = BLACK;
            }
        }

        /** Empties the next field that holds something: what it held, or null when all are empty. */
        Thing giveUpNext() {
            Thing given = null;
            while (given == null && nextField >= 0 && nextField < held.length) {
                given = held[nextField];
                held[nextField] = null;
                nextField++;
            }
            return given;
        }

        int tell(int what) {
            switch (what) {
                case 0: return kind.number;
                case 1: return count;
                case 2: return colour;
                case 3: return address;
                case 4: return inList ? 1 : 0;
                case 5: return wishUntold ? 1 : 0;
                case 6: return hands;
                default: return husk ? 1 : 0;
            }
        }
    }

    /** Objects in a row; each is in it once at most, so that there is always a place. */
    private static final class Row {
        private final Thing[] things = new Thing[OBJECTS];
        int length;

        void append(Thing thing) {
            if (length < things.length) {
                things[length] = thing;
                length++;
            }
        }

        Thing item(int i) {
            return i >= 0 && i < length && i < things.length ? things[i] : null;
        }

        Thing last() {
            return item(length - 1);
        }

        void removeLast() {
            if (length > 0) {
                length--;
            }
        }

        Thing takeFirst() {
            Thing first = item(0);
            if (first != null) {
                length--;
                for (int i = 0; i < length && i + 1 < things.length; i++) {
                    things[i] = things[i + 1];
                }
            }
            return first;
        }

        void clear() {
            length = 0;
        }
    }

    /** The words of the heap, each with the object that has it, or null. */
    private static final class Words {
        private final Thing[] owners = new Thing[WORDS];
        int free = WORDS;

        Thing owner(int word) {
            return word >= 0 && word < WORDS ? owners[word] : null;
        }

        /** Going over all words with this meets each object once, by the addresses. */
        Thing ownerFrom(int word) {
            Thing thing = owner(word);
            return thing != null && thing.address == word ? thing : null;
        }

        int gapFor(int size) {
            int gap = 0;
            for (int word = 0; word < WORDS; word++) {
                gap = owners[word] == null ? gap + 1 : 0;
                if (gap >= size) {
                    return word + 1 - size;
                }
            }
            return NONE;
        }

        void give(Thing thing, int address) {
            int end = address + thing.kind.size;
            for (int word = address; word >= 0 && word < end && word < WORDS; word++) {
                owners[word] = thing;
            }
            thing.address = address;
            free -= thing.kind.size;
        }

        void takeBack(Thing thing) {
            int end = thing.address + thing.kind.size;
            for (int word = thing.address; word >= 0 && word < end && word < WORDS; word++) {
                owners[word] = null;
            }
            free += thing.kind.size;
        }

        int moveAllDown() {
            int moved = 0;
            int next = 0;
            for (int word = 0; word < WORDS; word++) {
                Thing thing = ownerFrom(word);
                if (thing != null) {
                    if (word != next) {
                        takeBack(thing);
                        give(thing, next);
                        moved++;
                    }
                    next += thing.kind.size;
                }
            }
            return moved;
        }
    }

    /** The objects by their numbers, with what has to know when one is freed. */
    private static final class Store {
        private final Thing[] things = new Thing[OBJECTS];
        private final int[] freedNumbers = new int[FREED_TOLD];
        final Thing[] weaks = new Thing[WEAK_REFERENCES];
        final Words words = new Words();
        int thingsThere;
        int freedEver;

        Thing thing(int number) {
            return number >= 0 && number < OBJECTS ? things[number] : null;
        }

        Thing living(int number) {
            Thing thing = thing(number);
            return thing == null || thing.husk ? null : thing;
        }

        int leastFreeNumber() {
            for (int number = 0; number < OBJECTS; number++) {
                if (things[number] == null) {
                    return number;
                }
            }
            return NONE;
        }

        boolean hasRoomFor(Kind kind) {
            return leastFreeNumber() != NONE && words.gapFor(kind.size) != NONE;
        }

        int place(Kind kind) {
            int number = leastFreeNumber();
            int address = words.gapFor(kind.size);
            if (number < 0 || number >= OBJECTS || address < 0) {
                return FULL;
            }
            Thing thing = new Thing(number, kind);
            words.give(thing, address);
            things[number] = thing;
            thingsThere++;
            return number;
        }

        void free(Thing thing) {
            int number = thing.number;
            if (number < 0 || number >= OBJECTS) {
                return;
            }
            words.takeBack(thing);
            things[number] = null;
            thingsThere--;
            for (int w = 0; w < WEAK_REFERENCES; w++) {
                if (weaks[w] == thing) {
                    weaks[w] = null;
                }
            }
            // floorMod: the place is one of the row even if the counter ever passed the largest int.
            freedNumbers[Math.floorMod(freedEver, FREED_TOLD)] = number;
            freedEver++;
        }

        int freedNumber(int i) {
            if (i < 0 || i >= freedEver || i < freedEver - FREED_TOLD) {
                return NONE;
            }
            return freedNumbers[i % FREED_TOLD];
        }
    }

    /** Counting up and down, with what comes of a count that falls. */
    private static final class Counting {
        private final Store store;
        // Those that are being let go, each held by the one before: a row instead of recursion.
        private final Row going = new Row();
        final Row list = new Row();
        final Row wishes = new Row();

        Counting(Store store) {
            this.store = store;
        }

        void more(Thing thing) {
            thing.count++;
            thing.blackenUnlessGreen();
        }

        /** How many were freed by it. */
        int less(Thing thing) {
            int freedBefore = store.freedEver;
            lower(thing);
            Thing innermost = going.last();
            for (int step = 0; step < MOST_STEPS && innermost != null; step++) {
                Thing given = innermost.giveUpNext();
                if (given != null) {
                    lower(given);
                } else {
                    finish(innermost);
                }
                innermost = going.last();
            }
            return store.freedEver - freedBefore;
        }

        void tellWish(Thing thing) {
            thing.wishUntold = false;
            thing.count++;
            wishes.append(thing);
        }

        private void lower(Thing thing) {
            thing.count--;
            if (thing.count > 0) {
                suspect(thing);
            } else if (thing.wishUntold) {
                tellWish(thing);
                thing.blackenUnlessGreen();
            } else {
                going.append(thing);
            }
        }

        private void suspect(Thing thing) {
            if (thing.isGreen()) {
                return;
            }
            thing.colour = PURPLE;
            if (!thing.inList) {
                thing.inList = true;
                list.append(thing);
            }
        }

        private void finish(Thing thing) {
            going.removeLast();
            thing.blackenUnlessGreen();
            if (thing.inList) {
                thing.husk = true;
            } else {
                store.free(thing);
            }
        }
    }

    /** A collection; in its walks the order is free, since it changes neither colours nor counts. */
    private static final class Collector {
        private final Store store;
        private final Counting counting;
        private final Row reached = new Row();
        // Its own row, since scanning blackens in the middle of a walk.
        private final Row darkened = new Row();
        int collections;
        int grayed;
        int blackened;

        Collector(Store store, Counting counting) {
            this.store = store;
            this.counting = counting;
        }

        /** How many were freed by it. */
        int run() {
            int freedBefore = store.freedEver;
            collections++;
            markListed();
            scanListed();
            tellWishes();
            emptyList();
            freeWhite();
            return store.freedEver - freedBefore;
        }

        // Who is out of the list loses inList here; the row itself is emptied at the end.
        private void markListed() {
            Row list = counting.list;
            for (int i = 0; i < OBJECTS && i < list.length; i++) {
                Thing thing = list.item(i);
                if (thing == null) {
                    continue;
                }
                if (thing.husk) {
                    thing.inList = false;
                    store.free(thing);
                } else if (thing.colour == GRAY) {
                    thing.inList = false;
                } else {
                    markFrom(thing);
                }
            }
        }

        private void markFrom(Thing root) {
            reached.clear();
            turnGray(root);
            for (int i = 0; i < OBJECTS && i < reached.length; i++) {
                Thing thing = reached.item(i);
                if (thing == null) {
                    continue;
                }
                for (Thing held : thing.held) {
                    if (held != null && !held.isGreen()) {
                        held.count--;
                        turnGray(held);
                    }
                }
            }
        }

        private void turnGray(Thing thing) {
            if (thing.colour != GRAY && !thing.isGreen()) {
                thing.colour = GRAY;
                grayed++;
                reached.append(thing);
            }
        }

        private void scanListed() {
            Row list = counting.list;
            for (int i = 0; i < OBJECTS && i < list.length; i++) {
                Thing thing = list.item(i);
                if (thing != null && thing.inList) {
                    scanFrom(thing);
                }
            }
        }

        private void scanFrom(Thing root) {
            reached.clear();
            judge(root);
            for (int i = 0; i < OBJECTS && i < reached.length; i++) {
                Thing thing = reached.item(i);
                if (thing == null) {
                    continue;
                }
                for (Thing held : thing.held) {
                    if (held != null) {
                        judge(held);
                    }
                }
            }
        }

        private void judge(Thing thing) {
            if (thing.colour != GRAY) {
                return;
            }
            if (thing.count > 0) {
                blackenFrom(thing);
            } else {
                thing.colour = WHITE;
                reached.append(thing);
            }
        }

        private void blackenFrom(Thing root) {
            darkened.clear();
            turnBlack(root);
            for (int i = 0; i < OBJECTS && i < darkened.length; i++) {
                Thing thing = darkened.item(i);
                if (thing == null) {
                    continue;
                }
                for (Thing held : thing.held) {
                    if (held != null && !held.isGreen()) {
                        held.count++;
                        turnBlack(held);
                    }
                }
            }
        }

        private void turnBlack(Thing thing) {
            if (thing.colour != BLACK) {
                thing.colour = BLACK;
                blackened++;
                darkened.append(thing);
            }
        }

        private void tellWishes() {
            for (int word = 0; word < WORDS; word++) {
                Thing thing = store.words.ownerFrom(word);
                if (thing != null && thing.colour == WHITE && thing.wishUntold) {
                    counting.tellWish(thing);
                    blackenFrom(thing);
                }
            }
        }

        private void emptyList() {
            Row list = counting.list;
            for (int i = 0; i < OBJECTS && i < list.length; i++) {
                Thing thing = list.item(i);
                if (thing != null) {
                    thing.inList = false;
                }
            }
            list.clear();
        }

        private void freeWhite() {
            for (int word = 0; word < WORDS; word++) {
                Thing thing = store.words.ownerFrom(word);
                if (thing == null || thing.colour != WHITE) {
                    continue;
                }
                // What is not green lost these counts while the rings were marked.
                for (Thing held : thing.held) {
                    if (held != null && held.isGreen()) {
                        counting.less(held);
                    }
                }
                store.free(thing);
            }
        }
    }
}
