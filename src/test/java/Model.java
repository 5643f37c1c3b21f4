import java.util.ArrayDeque;
import java.util.ArrayList;
import java.util.Deque;
import java.util.List;
import java.util.TreeMap;

/**
 * The document's words in their plainest form, with recursion and the Java library, written apart
 * from the class: ModelTest asks both the same and compares. INDEX and ARGUMENT stand for exceptions.
 */
final class Model {
    static final int INDEX = -1001;
    static final int ARGUMENT = -1002;

    private static final int BLACK = 0;
    private static final int GRAY = 1;
    private static final int WHITE = 2;
    private static final int PURPLE = 3;
    private static final int GREEN = 4;

    private static final class Obj {
        int number;
        int type;
        int address;
        int size;
        int count;
        int hands;
        int colour;
        boolean wishOpen;
        boolean husk;
        int[] fields;
    }

    private final int[][] types = new int[10][];
    private final TreeMap<Integer, Obj> objects = new TreeMap<>();
    private final List<Integer> list = new ArrayList<>();
    private final Deque<Integer> wishes = new ArrayDeque<>();
    private final int[] weak = new int[20];
    private final List<Integer> freed = new ArrayList<>();
    private int collections;
    private int moves;
    private int grayed;
    private int blackened;

    Model() {
        java.util.Arrays.fill(weak, -1);
    }

    int type(int type, int fields, int extra, boolean wish) {
        if (type < 0 || type > 9) {
            return INDEX;
        }
        if (fields < 0 || fields > 6 || extra < 0 || extra > 60) {
            return ARGUMENT;
        }
        if (types[type] != null) {
            return 0;
        }
        types[type] = new int[] {fields, 2 + fields + extra, wish ? 1 : 0};
        return 1;
    }

    int make(int type) {
        if (type < 0 || type > 9 || types[type] == null) {
            return INDEX;
        }
        int size = types[type][1];
        if (number() < 0 || address(size) < 0) {
            collect();
        }
        if (number() >= 0 && address(size) < 0 && freeWords() >= size) {
            pack();
        }
        if (number() < 0 || address(size) < 0) {
            return -2;
        }
        Obj o = new Obj();
        o.number = number();
        o.address = address(size);
        o.type = type;
        o.size = size;
        o.count = 1;
        o.hands = 1;
        o.colour = types[type][0] == 0 ? GREEN : BLACK;
        o.wishOpen = types[type][2] == 1;
        o.fields = new int[types[type][0]];
        java.util.Arrays.fill(o.fields, -1);
        objects.put(o.number, o);
        return o.number;
    }

    int hold(int n) {
        Obj o = alive(n);
        if (o == null) {
            return -1;
        }
        o.hands++;
        more(o);
        return o.count;
    }

    int loose(int n) {
        Obj o = alive(n);
        if (o == null || o.hands == 0) {
            return -1;
        }
        int before = freed.size();
        o.hands--;
        less(o);
        return freed.size() - before;
    }

    int set(int n, int field, int held) {
        Obj o = alive(n);
        if (o == null) {
            return -1;
        }
        if (field < 0 || field >= o.fields.length) {
            return INDEX;
        }
        if (held != -1 && alive(held) == null) {
            return -1;
        }
        int before = freed.size();
        int old = o.fields[field];
        o.fields[field] = held;
        if (held != -1) {
            more(objects.get(held));
        }
        if (old != -1) {
            less(objects.get(old));
        }
        return freed.size() - before;
    }

    int get(int n, int field) {
        Obj o = objects.get(n);
        return o == null || field < 0 || field >= o.fields.length ? INDEX : o.fields[field];
    }

    int wish() {
        if (wishes.isEmpty()) {
            return -1;
        }
        int n = wishes.removeFirst();
        objects.get(n).hands++;
        return n;
    }

    int collect() {
        int before = freed.size();
        collections++;
        for (int n : new ArrayList<>(list)) {
            Obj o = objects.get(n);
            if (o.husk) {
                list.remove((Integer) n);
                free(o);
            } else if (o.colour == GRAY) {
                list.remove((Integer) n);
            } else {
                gray(o);
            }
        }
        for (int n : list) {
            scan(objects.get(n));
        }
        for (Obj o : byAddress()) {
            if (o.colour == WHITE && o.wishOpen) {
                o.wishOpen = false;
                wishes.addLast(o.number);
                o.count++;
                blacken(o);
            }
        }
        list.clear();
        for (Obj o : byAddress()) {
            if (o.colour != WHITE) {
                continue;
            }
            for (int held : o.fields) {
                Obj h = held == -1 ? null : objects.get(held);
                if (h != null && h.colour == GREEN) {
                    h.count--;
                    if (h.count == 0) {
                        end(h);
                    }
                }
            }
            free(o);
        }
        return freed.size() - before;
    }

    int pack() {
        moves++;
        int next = 0;
        int moved = 0;
        for (Obj o : byAddress()) {
            if (o.address != next) {
                moved++;
                o.address = next;
            }
            next += o.size;
        }
        return moved;
    }

    int weak(int w, int n) {
        if (w < 0 || w > 19) {
            return INDEX;
        }
        if (n != -1 && alive(n) == null) {
            return -1;
        }
        int old = weak[w];
        weak[w] = n;
        return old;
    }

    int seen(int w) {
        return w < 0 || w > 19 ? INDEX : weak[w];
    }

    int object(int n, int what) {
        if (what < 0 || what > 7) {
            return INDEX;
        }
        Obj o = objects.get(n);
        if (o == null) {
            return -1;
        }
        int inList = list.contains(n) ? 1 : 0;
        int[] all = {o.type, o.count, o.colour, o.address, inList, o.wishOpen ? 1 : 0, o.hands, o.husk ? 1 : 0};
        return all[what];
    }

    int count(int what) {
        if (what < 0 || what > 8) {
            return INDEX;
        }
        int[] all = {objects.size(), list.size(), wishes.size(), freeWords(), freed.size(), collections,
            moves, grayed, blackened};
        return all[what];
    }

    int listed(int i) {
        return i < 0 || i >= list.size() ? -1 : list.get(i);
    }

    int freed(int i) {
        return i < 0 || i >= freed.size() || i < freed.size() - 100 ? -1 : freed.get(i);
    }

    int at(int word) {
        if (word < 0 || word > 399) {
            return INDEX;
        }
        for (Obj o : objects.values()) {
            if (word >= o.address && word < o.address + o.size) {
                return o.number;
            }
        }
        return -1;
    }

    /** What must hold between calls, counted anew from fields, hands and wishes; null when it does. */
    String broken() {
        for (Obj o : objects.values()) {
            int due = o.hands + (wishes.contains(o.number) ? 1 : 0);
            for (Obj holder : objects.values()) {
                for (int held : holder.fields) {
                    due += held == o.number ? 1 : 0;
                }
            }
            if (o.count != due || o.husk != (due == 0) || o.colour == GRAY || o.colour == WHITE) {
                return "object " + o.number + " has count " + o.count + ", held " + due + ", colour " + o.colour;
            }
        }
        return null;
    }

    private Obj alive(int n) {
        Obj o = objects.get(n);
        return o == null || o.husk ? null : o;
    }

    private int number() {
        for (int n = 0; n < 80; n++) {
            if (!objects.containsKey(n)) {
                return n;
            }
        }
        return -1;
    }

    private int address(int size) {
        int end = 0;
        for (Obj o : byAddress()) {
            if (o.address - end >= size) {
                return end;
            }
            end = o.address + o.size;
        }
        return 400 - end >= size ? end : -1;
    }

    private int freeWords() {
        int free = 400;
        for (Obj o : objects.values()) {
            free -= o.size;
        }
        return free;
    }

    private List<Obj> byAddress() {
        List<Obj> sorted = new ArrayList<>(objects.values());
        sorted.sort((a, b) -> Integer.compare(a.address, b.address));
        return sorted;
    }

    private void more(Obj o) {
        o.count++;
        black(o);
    }

    private void less(Obj o) {
        o.count--;
        if (o.count == 0) {
            end(o);
        } else if (o.colour != GREEN && o.colour != PURPLE) {
            o.colour = PURPLE;
            if (!list.contains(o.number)) {
                list.add(o.number);
            }
        }
    }

    private void end(Obj o) {
        if (o.wishOpen) {
            o.wishOpen = false;
            wishes.addLast(o.number);
            o.count = 1;
            black(o);
            return;
        }
        for (int f = 0; f < o.fields.length; f++) {
            int held = o.fields[f];
            o.fields[f] = -1;
            if (held != -1) {
                less(objects.get(held));
            }
        }
        black(o);
        if (list.contains(o.number)) {
            o.husk = true;
        } else {
            free(o);
        }
    }

    private void black(Obj o) {
        if (o.colour != GREEN) {
            o.colour = BLACK;
        }
    }

    private void free(Obj o) {
        objects.remove(o.number);
        for (int w = 0; w < 20; w++) {
            if (weak[w] == o.number) {
                weak[w] = -1;
            }
        }
        freed.add(o.number);
    }

    private void gray(Obj o) {
        if (o.colour == GRAY || o.colour == GREEN) {
            return;
        }
        o.colour = GRAY;
        grayed++;
        for (int held : o.fields) {
            if (held != -1 && objects.get(held).colour != GREEN) {
                objects.get(held).count--;
                gray(objects.get(held));
            }
        }
    }

    private void scan(Obj o) {
        if (o.colour != GRAY) {
            return;
        }
        if (o.count > 0) {
            blacken(o);
            return;
        }
        o.colour = WHITE;
        for (int held : o.fields) {
            if (held != -1) {
                scan(objects.get(held));
            }
        }
    }

    private void blacken(Obj o) {
        o.colour = BLACK;
        blackened++;
        for (int held : o.fields) {
            Obj h = held == -1 ? null : objects.get(held);
            if (h != null && h.colour != GREEN) {
                h.count++;
                if (h.colour != BLACK) {
                    blacken(h);
                }
            }
        }
    }
}
