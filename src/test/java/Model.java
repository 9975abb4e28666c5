import java.util.ArrayDeque;
import java.util.ArrayList;
import java.util.Arrays;
import java.util.Collection;
import java.util.Collections;
import java.util.HashMap;
import java.util.HashSet;
import java.util.IdentityHashMap;
import java.util.LinkedHashMap;
import java.util.LinkedHashSet;
import java.util.List;
import java.util.Map;
import java.util.NoSuchElementException;
import java.util.Set;
import java.util.TreeMap;

/**
 * The document once more, written as its words stand and with the Java library, so that ModelTest can
 * compare: sets are computed anew each time, and nothing is kept that can be found out.
 */
public final class Model {
    private static final class Thing {
        int number;
        int form;
        int kind = -1;
        int age;
        int capacity;
        boolean old;
        boolean finalized;
        boolean interned;
        boolean queued;
        Thing[] fields = new Thing[0];
        int[] numbers = new int[0];
        int[] bytes = new int[0];
        Thing referent;
        Map<Thing, Thing> entries = new LinkedHashMap<>();

        int words() {
            switch (form) {
                case 0:
                case 1:
                    return 2 + fields.length + numbers.length;
                case 2:
                    return 2 + (bytes.length + 3) / 4;
                case 6:
                    return 2 + 2 * capacity;
                default:
                    return 3;
            }
        }
    }

    /** What objects hold, now or in the PICTURE. */
    private static class View {
        Collection<Thing> fields(Thing thing) {
            return Arrays.asList(thing.fields);
        }

        Thing referent(Thing thing) {
            return thing.referent;
        }

        Map<Thing, Thing> entries(Thing thing) {
            return thing.entries;
        }
    }

    private static final class Picture extends View {
        private final Map<Thing, List<Thing>> fields = new IdentityHashMap<>();
        private final Map<Thing, Thing> referents = new IdentityHashMap<>();
        private final Map<Thing, Map<Thing, Thing>> entries = new IdentityHashMap<>();
        private final Set<Thing> roots;

        Picture(Collection<Thing> present, Set<Thing> roots) {
            this.roots = roots;
            for (Thing thing : present) {
                fields.put(thing, new ArrayList<>(Arrays.asList(thing.fields)));
                referents.put(thing, thing.referent);
                entries.put(thing, new HashMap<>(thing.entries));
            }
        }

        @Override
        Collection<Thing> fields(Thing thing) {
            return fields.get(thing);
        }

        @Override
        Thing referent(Thing thing) {
            return referents.get(thing);
        }

        @Override
        Map<Thing, Thing> entries(Thing thing) {
            return entries.get(thing);
        }
    }

    private static final View NOW = new View();

    private final List<Integer> parents = new ArrayList<>();
    private final List<Integer> ownReferences = new ArrayList<>();
    private final List<Integer> ownNumbers = new ArrayList<>();
    private final List<Boolean> saidFinal = new ArrayList<>();
    private final ArrayDeque<Thing[]> stack = new ArrayDeque<>();
    private final Thing[] globals = new Thing[8];
    private final ArrayDeque<Thing> queue = new ArrayDeque<>();
    private final ArrayDeque<Thing> lastRow = new ArrayDeque<>();
    private final TreeMap<Integer, Thing> present = new TreeMap<>();
    private int made;
    private int tenure = 2;
    private int young;
    private int full;
    private List<Integer> image = new ArrayList<>();
    private Picture picture;
    private final Set<Thing> news = new HashSet<>();
    private final Set<Thing> reads = new HashSet<>();
    private final Set<Thing> visited = new HashSet<>();

    public Model() {
        stack.push(new Thing[8]);
    }

    // ---- kinds, frames, slots

    public int defineKind(int parent, int references, int numbers, boolean isFinal) {
        index(parent >= -1 && parent < parents.size());
        argument(references >= 0 && references <= 4 && numbers >= 0 && numbers <= 4);
        argument(parent < 0 || referencesOf(parent) + references <= 8);
        argument(parent < 0 || numbersOf(parent) + numbers <= 8);
        state(parents.size() < 12);
        parents.add(parent);
        ownReferences.add(references);
        ownNumbers.add(numbers);
        saidFinal.add(isFinal);
        return parents.size() - 1;
    }

    public int push(int slots) {
        argument(slots >= 1 && slots <= 8);
        state(stack.size() < 8);
        stack.push(new Thing[slots]);
        return stack.size();
    }

    public int pop(int slot) {
        slot(slot);
        state(stack.size() > 1);
        Thing held = stack.pop()[slot];
        return hold(0, held);
    }

    public int assign(int to, int from) {
        slot(to);
        slot(from);
        return hold(to, held(from));
    }

    public int clear(int slot) {
        slot(slot);
        int number = number(held(slot));
        hold(slot, null);
        return number;
    }

    public int toGlobal(int global, int from) {
        index(global >= 0 && global < 8);
        slot(from);
        int number = number(globals[global]);
        globals[global] = held(from);
        return number;
    }

    public int fromGlobal(int to, int global) {
        index(global >= 0 && global < 8);
        slot(to);
        return hold(to, globals[global]);
    }

    // ---- making objects

    public int newObject(int to, int kind) {
        slot(to);
        argument(kind >= 0 && kind < parents.size());
        Thing thing = new Thing();
        thing.kind = kind;
        thing.fields = new Thing[referencesOf(kind)];
        thing.numbers = new int[numbersOf(kind)];
        return makeInto(to, thing);
    }

    public int newRow(int to, int length) {
        slot(to);
        argument(length >= 0 && length <= 40);
        Thing thing = new Thing();
        thing.form = 1;
        thing.fields = new Thing[length];
        return makeInto(to, thing);
    }

    public int newText(int to, int length) {
        slot(to);
        argument(length >= 0 && length <= 120);
        Thing thing = new Thing();
        thing.form = 2;
        thing.bytes = new int[length];
        return makeInto(to, thing);
    }

    public int newWeak(int to, int of, boolean isQueued) {
        return newReference(to, of, 3, isQueued);
    }

    public int newSoft(int to, int of, boolean isQueued) {
        return newReference(to, of, 4, isQueued);
    }

    public int newPhantom(int to, int of) {
        return newReference(to, of, 5, true);
    }

    private int newReference(int to, int of, int form, boolean isQueued) {
        slot(to);
        slot(of);
        argument(held(of) != null);
        Thing thing = new Thing();
        thing.form = form;
        thing.referent = held(of);
        thing.queued = isQueued;
        return makeInto(to, thing);
    }

    public int newTable(int to, int capacity) {
        slot(to);
        argument(capacity >= 1 && capacity <= 16);
        Thing thing = new Thing();
        thing.form = 6;
        thing.capacity = capacity;
        return makeInto(to, thing);
    }

    private int makeInto(int to, Thing thing) {
        if (!findRoom(thing.words())) {
            return -1;
        }
        add(thing, thing.words() > 32);
        return hold(to, thing);
    }

    private void add(Thing thing, boolean isOld) {
        thing.number = made++;
        thing.old = isOld;
        present.put(thing.number, thing);
        if (picture != null) {
            news.add(thing);
        }
    }

    private boolean isRoom(int words) {
        return words > 32 ? oldWords() + words <= 320 : youngWords() + words <= 96;
    }

    private boolean findRoom(int words) {
        if (!isRoom(words) && picture != null) {
            endMarking();
        }
        if (!isRoom(words)) {
            youngCollection();
        }
        if (!isRoom(words)) {
            fullCollection(strongFromRoots(false), false);
        }
        if (!isRoom(words)) {
            fullCollection(strongFromRoots(true), true);
        }
        return isRoom(words);
    }

    // ---- fields, places, bytes

    public int load(int to, int holder, int place) {
        slot(to);
        slot(holder);
        field(holder, place);
        return hold(to, held(holder).fields[place]);
    }

    public int store(int holder, int place, int from) {
        slot(holder);
        slot(from);
        field(holder, place);
        int before = number(held(holder).fields[place]);
        held(holder).fields[place] = held(from);
        return before;
    }

    private void field(int holder, int place) {
        argument(formOf(holder) == 0 || formOf(holder) == 1);
        argument(place >= 0 && place < held(holder).fields.length);
    }

    public int getNumber(int holder, int field) {
        slot(holder);
        argument(formOf(holder) == 0 && field >= 0 && field < held(holder).numbers.length);
        return held(holder).numbers[field];
    }

    public int setNumber(int holder, int field, int value) {
        int before = getNumber(holder, field);
        held(holder).numbers[field] = value;
        return before;
    }

    public int getByte(int text, int place) {
        slot(text);
        argument(formOf(text) == 2 && place >= 0 && place < held(text).bytes.length);
        return held(text).bytes[place];
    }

    public int setByte(int text, int place, int value) {
        int before = getByte(text, place);
        argument(value >= 0 && value <= 255);
        state(!held(text).interned);
        held(text).bytes[place] = value;
        return before;
    }

    // ---- references that do not hold, rows of what has gone

    public int read(int to, int reference) {
        slot(to);
        slot(reference);
        argument(formOf(reference) == 3 || formOf(reference) == 4);
        Thing referent = held(reference).referent;
        noteRead(referent);
        return hold(to, referent);
    }

    public boolean refersTo(int reference, int slot) {
        slot(reference);
        slot(slot);
        argument(isReference(held(reference)));
        return held(reference).referent != null && held(reference).referent == held(slot);
    }

    public boolean forget(int reference) {
        slot(reference);
        argument(isReference(held(reference)));
        boolean had = held(reference).referent != null;
        held(reference).referent = null;
        return had;
    }

    public int poll(int to) {
        slot(to);
        return queue.isEmpty() ? -1 : hold(to, queue.removeFirst());
    }

    public int takeLast(int to) {
        slot(to);
        return lastRow.isEmpty() ? -1 : hold(to, lastRow.removeFirst());
    }

    // ---- tables

    public boolean put(int table, int key, int value) {
        slot(value);
        table(table, key);
        Map<Thing, Thing> entries = held(table).entries;
        if (!entries.containsKey(held(key)) && entries.size() == held(table).capacity) {
            return false;
        }
        entries.put(held(key), held(value));
        return true;
    }

    public int get(int to, int table, int key) {
        slot(to);
        table(table, key);
        return hold(to, held(table).entries.get(held(key)));
    }

    public boolean remove(int table, int key) {
        table(table, key);
        boolean had = held(table).entries.containsKey(held(key));
        held(table).entries.remove(held(key));
        return had;
    }

    private void table(int table, int key) {
        slot(table);
        slot(key);
        argument(formOf(table) == 6 && held(key) != null);
    }

    // ---- texts of which there is one, copies, images

    public int intern(int to, int text) {
        slot(to);
        slot(text);
        argument(formOf(text) == 2);
        Thing found = findInterned(held(text).bytes);
        if (found != null) {
            noteRead(found);
            return hold(to, found);
        }
        held(text).interned = true;
        return hold(to, held(text));
    }

    private Thing findInterned(int[] bytes) {
        for (Thing thing : present.values()) {
            if (thing.interned && Arrays.equals(thing.bytes, bytes)) {
                return thing;
            }
        }
        return null;
    }

    public int deepCopy(int to, int from) {
        slot(to);
        slot(from);
        argument(formOf(from) >= 0 && formOf(from) <= 2);
        Thing original = held(from);
        if (original.interned) {
            return hold(to, original);
        }
        TreeMap<Integer, Thing> originals = new TreeMap<>();
        int words = 0;
        for (Thing thing : net(original)) {
            if (!thing.interned) {
                originals.put(thing.number, thing);
                words += thing.words();
            }
        }
        if (!findRoom(words)) {
            return -1;
        }
        Map<Thing, Thing> copies = new IdentityHashMap<>();
        for (Thing thing : originals.values()) {
            Thing copy = new Thing();
            copy.form = thing.form;
            copy.kind = thing.kind;
            copy.numbers = thing.numbers.clone();
            copy.bytes = thing.bytes.clone();
            add(copy, words > 32);
            copies.put(thing, copy);
        }
        for (Thing thing : originals.values()) {
            Thing[] fields = thing.fields.clone();
            for (int i = 0; i < fields.length; i++) {
                fields[i] = copies.getOrDefault(fields[i], fields[i]);
            }
            copies.get(thing).fields = fields;
        }
        return hold(to, copies.get(original));
    }

    private static List<Thing> net(Thing first) {
        List<Thing> net = new ArrayList<>();
        net.add(first);
        for (int at = 0; at < net.size(); at++) {
            for (Thing thing : net.get(at).fields) {
                if (thing != null && thing.form <= 2 && !net.contains(thing)) {
                    net.add(thing);
                }
            }
        }
        return net;
    }

    public int writeImage(int from) {
        slot(from);
        argument(formOf(from) >= 0 && formOf(from) <= 2);
        List<Thing> net = net(held(from));
        List<Integer> numbers = new ArrayList<>();
        numbers.add(net.size());
        for (Thing thing : net) {
            numbers.add(thing.interned ? 3 : thing.form);
            numbers.add(thing.form == 0 ? thing.kind : thing.form == 1 ? thing.fields.length : thing.bytes.length);
            for (Thing held : thing.fields) {
                numbers.add(net.indexOf(held) + 1);
            }
            for (int number : thing.numbers) {
                numbers.add(number);
            }
            for (int b : thing.bytes) {
                numbers.add(b);
            }
        }
        if (numbers.size() > 400) {
            return -1;
        }
        image = numbers;
        return image.size();
    }

    public int setImage(int place, int value) {
        index(place >= 0 && place < image.size());
        return image.set(place, value);
    }

    public int readImage(int to) {
        slot(to);
        List<Thing> things = new ArrayList<>();
        List<int[]> references = new ArrayList<>();
        try {
            parse(things, references);
        } catch (NoSuchElementException e) {
            return -2;
        }
        int words = 0;
        for (Thing thing : things) {
            words += thing.words();
        }
        if (!findRoom(words)) {
            return -1;
        }
        for (int i = 0; i < things.size(); i++) {
            Thing found = things.get(i).interned ? findInterned(things.get(i).bytes) : null;
            if (found == null) {
                add(things.get(i), words > 32);
            } else {
                noteRead(found);
                things.set(i, found);
            }
        }
        for (int i = 0; i < things.size(); i++) {
            for (int j = 0; j < references.get(i).length; j++) {
                int reference = references.get(i)[j];
                things.get(i).fields[j] = reference == 0 ? null : things.get(reference - 1);
            }
        }
        return hold(to, things.get(0));
    }

    private void parse(List<Thing> things, List<int[]> references) {
        ArrayDeque<Integer> rest = new ArrayDeque<>(image);
        int n = rest.removeFirst();
        wellFormed(n >= 1);
        for (int i = 0; i < n; i++) {
            Thing thing = new Thing();
            int form = rest.removeFirst();
            int what = rest.removeFirst();
            int fields = 0;
            if (form == 0) {
                wellFormed(what >= 0 && what < parents.size());
                thing.kind = what;
                fields = referencesOf(what);
                thing.numbers = new int[numbersOf(what)];
            } else if (form == 1) {
                wellFormed(what >= 0 && what <= 40);
                thing.form = 1;
                fields = what;
            } else {
                wellFormed((form == 2 || form == 3) && what >= 0 && what <= 120);
                thing.form = 2;
                thing.interned = form == 3;
                thing.bytes = new int[what];
            }
            thing.fields = new Thing[fields];
            int[] held = new int[fields];
            for (int j = 0; j < fields; j++) {
                held[j] = rest.removeFirst();
                wellFormed(held[j] >= 0 && held[j] <= n);
            }
            for (int j = 0; j < thing.numbers.length; j++) {
                thing.numbers[j] = rest.removeFirst();
            }
            for (int j = 0; j < thing.bytes.length; j++) {
                thing.bytes[j] = rest.removeFirst();
                wellFormed(thing.bytes[j] >= 0 && thing.bytes[j] <= 255);
            }
            things.add(thing);
            references.add(held);
        }
        wellFormed(rest.isEmpty());
    }

    private static void wellFormed(boolean is) {
        if (!is) {
            throw new NoSuchElementException();
        }
    }

    // ---- collecting

    public int setTenure(int age) {
        argument(age >= 1 && age <= 4);
        int before = tenure;
        tenure = age;
        return before;
    }

    public int collectYoung() {
        state(picture == null);
        return youngCollection();
    }

    public int collectAll(boolean isPressed) {
        state(picture == null);
        return fullCollection(strongFromRoots(isPressed), isPressed);
    }

    public int beginMarking() {
        state(picture == null);
        picture = new Picture(present.values(), roots());
        news.clear();
        reads.clear();
        visited.clear();
        return picture.roots.size();
    }

    public int step(int visits) {
        argument(visits >= 1 && visits <= 50);
        state(picture != null);
        List<Thing> left = new ArrayList<>(toKeep());
        left.removeAll(visited);
        Collections.reverse(left);
        int count = Math.min(visits, left.size());
        visited.addAll(left.subList(0, count));
        if (count == left.size()) {
            endMarking();
        }
        return count;
    }

    private Set<Thing> toKeep() {
        Set<Thing> from = new LinkedHashSet<>(picture.roots);
        for (Thing thing : reads) {
            if (!news.contains(thing)) {
                from.add(thing);
            }
        }
        return reached(from, picture, false, null);
    }

    private void noteRead(Thing thing) {
        if (picture != null && thing != null) {
            reads.add(thing);
        }
    }

    private void endMarking() {
        Set<Thing> strong = toKeep();
        strong.addAll(news);
        picture = null;
        fullCollection(strong, false);
    }

    private int youngCollection() {
        if (youngWords() + oldWords() > 320) {
            return fullCollection(strongFromRoots(false), false);
        }
        young++;
        Set<Thing> from = roots();
        for (Thing thing : present.values()) {
            if (thing.old) {
                from.add(thing);
            }
        }
        int removed = stepsTwoToSix(reached(from, NOW, false, null), false);
        for (Thing thing : present.values()) {
            if (!thing.old) {
                thing.age++;
                thing.old = thing.age >= tenure;
            }
        }
        return removed;
    }

    private Set<Thing> strongFromRoots(boolean isPressed) {
        return reached(roots(), NOW, isPressed, null);
    }

    private int fullCollection(Set<Thing> strong, boolean isPressed) {
        full++;
        int removed = stepsTwoToSix(strong, isPressed);
        for (Thing thing : present.values()) {
            if (!thing.old && oldWords() + thing.words() <= 320) {
                thing.old = true;
            }
        }
        return removed;
    }

    private int stepsTwoToSix(Set<Thing> strong, boolean isPressed) {
        Set<Thing> from = new LinkedHashSet<>(strong);
        for (Thing thing : present.values()) {
            if (isFinalThing(thing) && !strong.contains(thing) && !thing.finalized) {
                thing.finalized = true;
                lastRow.addLast(thing);
                from.add(thing);
            }
        }
        Set<Thing> kept = reached(from, NOW, isPressed, null);
        for (Thing thing : present.values()) {
            if (kept.contains(thing) && thing.referent != null) {
                boolean isLost = thing.form == 5 ? !kept.contains(thing.referent) : !strong.contains(thing.referent);
                if (isLost) {
                    thing.referent = null;
                    if (thing.queued) {
                        queue.addLast(thing);
                    }
                }
            }
            thing.entries.keySet().removeIf(key -> !kept.contains(key));
        }
        int before = present.size();
        present.values().removeIf(thing -> !kept.contains(thing));
        return before - present.size();
    }

    private static Set<Thing> reached(Set<Thing> from, View view, boolean isPressed, Thing never) {
        Set<Thing> reached = new LinkedHashSet<>(from);
        boolean isGrown = true;
        while (isGrown) {
            Set<Thing> more = new LinkedHashSet<>();
            for (Thing thing : reached) {
                if (thing.form <= 1) {
                    more.addAll(view.fields(thing));
                }
                if (thing.form == 4 && !isPressed) {
                    more.add(view.referent(thing));
                }
                if (thing.form == 6) {
                    view.entries(thing).forEach((key, value) -> {
                        if (reached.contains(key)) {
                            more.add(value);
                        }
                    });
                }
            }
            more.remove(null);
            more.remove(never);
            isGrown = reached.addAll(more);
        }
        return reached;
    }

    private Set<Thing> roots() {
        Set<Thing> roots = new LinkedHashSet<>();
        for (Thing[] frame : stack) {
            roots.addAll(Arrays.asList(frame));
        }
        roots.addAll(Arrays.asList(globals));
        roots.addAll(queue);
        roots.addAll(lastRow);
        roots.remove(null);
        return roots;
    }

    // ---- asked

    public int frames() {
        return stack.size();
    }

    public int slots() {
        return stack.peek().length;
    }

    public int kinds() {
        return parents.size();
    }

    public int referencesOf(int kind) {
        index(kind >= 0 && kind < parents.size());
        return ownReferences.get(kind) + (parents.get(kind) < 0 ? 0 : referencesOf(parents.get(kind)));
    }

    public int numbersOf(int kind) {
        index(kind >= 0 && kind < parents.size());
        return ownNumbers.get(kind) + (parents.get(kind) < 0 ? 0 : numbersOf(parents.get(kind)));
    }

    public boolean isFinal(int kind) {
        index(kind >= 0 && kind < parents.size());
        return saidFinal.get(kind) || parents.get(kind) >= 0 && isFinal(parents.get(kind));
    }

    private boolean isFinalThing(Thing thing) {
        return thing.form == 0 && isFinal(thing.kind);
    }

    public boolean isKindOf(int kind, int ancestor) {
        index(kind >= 0 && kind < parents.size());
        index(ancestor >= 0 && ancestor < parents.size());
        return kind == ancestor || parents.get(kind) >= 0 && isKindOf(parents.get(kind), ancestor);
    }

    public int numberOf(int slot) {
        slot(slot);
        return number(held(slot));
    }

    public int globalNumber(int global) {
        index(global >= 0 && global < 8);
        return number(globals[global]);
    }

    public int formOf(int slot) {
        slot(slot);
        return held(slot) == null ? -1 : held(slot).form;
    }

    public int kindOf(int slot) {
        slot(slot);
        return held(slot) == null ? -1 : held(slot).kind;
    }

    public int lengthOf(int slot) {
        slot(slot);
        Thing thing = held(slot);
        if (thing == null) {
            return -1;
        }
        return isReference(thing) ? 1 : thing.fields.length + thing.bytes.length + thing.capacity;
    }

    public int wordsOf(int slot) {
        slot(slot);
        return held(slot) == null ? 0 : held(slot).words();
    }

    public int ageOf(int slot) {
        slot(slot);
        return held(slot) == null ? -1 : held(slot).age;
    }

    public boolean isOld(int slot) {
        slot(slot);
        return held(slot) != null && held(slot).old;
    }

    public boolean isFinalized(int slot) {
        slot(slot);
        return held(slot) != null && held(slot).finalized;
    }

    public boolean isInterned(int slot) {
        slot(slot);
        return held(slot) != null && held(slot).interned;
    }

    public boolean isCleared(int slot) {
        slot(slot);
        return isReference(held(slot)) && held(slot).referent == null;
    }

    public int entriesOf(int slot) {
        slot(slot);
        return formOf(slot) == 6 ? held(slot).entries.size() : -1;
    }

    public int objects() {
        return present.size();
    }

    public int youngObjects() {
        return (int) present.values().stream().filter(thing -> !thing.old).count();
    }

    public int youngWords() {
        return present.values().stream().filter(thing -> !thing.old).mapToInt(Thing::words).sum();
    }

    public int oldWords() {
        return present.values().stream().filter(thing -> thing.old).mapToInt(Thing::words).sum();
    }

    public int made() {
        return made;
    }

    public int queued() {
        return queue.size();
    }

    public int lasts() {
        return lastRow.size();
    }

    public int interned() {
        return (int) present.values().stream().filter(thing -> thing.interned).count();
    }

    public int youngCollections() {
        return young;
    }

    public int fullCollections() {
        return full;
    }

    public boolean isMarking() {
        return picture != null;
    }

    public int tenure() {
        return tenure;
    }

    public int imageLength() {
        return image.size();
    }

    public int imageAt(int place) {
        index(place >= 0 && place < image.size());
        return image.get(place);
    }

    public boolean isPresent(int number) {
        return present.containsKey(number);
    }

    public boolean isReached(int number) {
        return isPresent(number) && strongFromRoots(false).contains(present.get(number));
    }

    public int distance(int number) {
        Set<Thing> near = roots();
        Thing wanted = present.get(number);
        for (int steps = 0; steps <= present.size(); steps++) {
            if (near.contains(wanted)) {
                return steps;
            }
            near.addAll(heldByFields(near));
        }
        return -1;
    }

    private static Set<Thing> heldByFields(Collection<Thing> holders) {
        Set<Thing> held = new LinkedHashSet<>();
        for (Thing holder : holders) {
            held.addAll(Arrays.asList(holder.fields));
        }
        held.remove(null);
        return held;
    }

    public int wouldRemove(boolean isPressed) {
        Set<Thing> from = strongFromRoots(isPressed);
        Set<Thing> lasts = new LinkedHashSet<>();
        for (Thing thing : present.values()) {
            if (isFinalThing(thing) && !thing.finalized && !from.contains(thing)) {
                lasts.add(thing);
            }
        }
        from.addAll(lasts);
        return present.size() - reached(from, NOW, isPressed, null).size();
    }

    public int retained(int slot) {
        slot(slot);
        argument(held(slot) != null);
        return retained(held(slot));
    }

    private int retained(Thing never) {
        Set<Thing> lost = strongFromRoots(false);
        Set<Thing> from = roots();
        from.remove(never);
        lost.removeAll(reached(from, NOW, false, never));
        return lost.stream().mapToInt(Thing::words).sum();
    }

    public int heaviest() {
        Thing heaviest = null;
        int most = -1;
        Set<Thing> reached = strongFromRoots(false);
        for (Thing thing : present.values()) {
            if (reached.contains(thing) && retained(thing) > most) {
                most = retained(thing);
                heaviest = thing;
            }
        }
        return number(heaviest);
    }

    public boolean onCircle(int slot) {
        slot(slot);
        argument(held(slot) != null);
        Set<Thing> behind = heldByFields(List.of(held(slot)));
        for (int i = 0; i <= present.size(); i++) {
            behind.addAll(heldByFields(behind));
        }
        return behind.contains(held(slot));
    }

    public int referrers(int slot) {
        slot(slot);
        argument(held(slot) != null);
        int count = 0;
        for (Thing thing : present.values()) {
            for (Thing held : thing.fields) {
                count += held == held(slot) ? 1 : 0;
            }
        }
        return count;
    }

    public boolean sameShape(int one, int other) {
        slot(one);
        slot(other);
        argument(held(one) != null && held(other) != null);
        List<List<Thing>> pairs = new ArrayList<>();
        pairs.add(List.of(held(one), held(other)));
        for (int at = 0; at < pairs.size(); at++) {
            Thing first = pairs.get(at).get(0);
            Thing second = pairs.get(at).get(1);
            if (first.form == second.form && first.form <= 1) {
                for (int i = 0; i < first.fields.length && i < second.fields.length; i++) {
                    if (first.fields[i] != null && second.fields[i] != null) {
                        List<Thing> pair = List.of(first.fields[i], second.fields[i]);
                        if (!pairs.contains(pair)) {
                            pairs.add(pair);
                        }
                    }
                }
            }
        }
        Set<Thing> firsts = new HashSet<>();
        Set<Thing> seconds = new HashSet<>();
        boolean isAlike = true;
        for (List<Thing> pair : pairs) {
            isAlike &= firsts.add(pair.get(0)) && seconds.add(pair.get(1)) && isAlike(pair.get(0), pair.get(1));
        }
        return isAlike;
    }

    private static boolean isAlike(Thing first, Thing second) {
        if (first.form != second.form || first.kind != second.kind) {
            return false;
        }
        if (first.form > 2) {
            return first == second;
        }
        boolean isAlike = first.fields.length == second.fields.length
                && Arrays.equals(first.numbers, second.numbers) && Arrays.equals(first.bytes, second.bytes);
        for (int i = 0; isAlike && i < first.fields.length; i++) {
            isAlike = (first.fields[i] == null) == (second.fields[i] == null);
        }
        return isAlike;
    }

    public int flaws() {
        return 0;
    }

    public double meanWords() {
        return present.values().stream().mapToInt(Thing::words).average().orElse(0);
    }

    public long digest() {
        List<Long> all = new ArrayList<>();
        long[] memory = {frames(), slots(), kinds(), objects(), youngObjects(), youngWords(), oldWords(), made(),
            queued(), lasts(), interned(), youngCollections(), fullCollections(), isMarking() ? 1 : 0, tenure(),
            wouldRemove(false), wouldRemove(true)};
        addAll(all, memory);
        for (int slot = 0; slot < slots(); slot++) {
            long[] asked = {numberOf(slot), formOf(slot), kindOf(slot), lengthOf(slot), wordsOf(slot), ageOf(slot),
                isOld(slot) ? 1 : 0, isFinalized(slot) ? 1 : 0, isInterned(slot) ? 1 : 0, isCleared(slot) ? 1 : 0,
                entriesOf(slot)};
            addAll(all, asked);
        }
        for (int global = 0; global < 8; global++) {
            all.add((long) globalNumber(global));
        }
        for (int number : present.keySet()) {
            addAll(all, new long[] {number, isReached(number) ? 1 : 0, distance(number)});
        }
        all.add((long) image.size());
        for (int number : image) {
            all.add((long) number);
        }
        long d = 58002;
        for (long x : all) {
            d = d * 31 + x;
        }
        return d;
    }

    private static void addAll(List<Long> list, long[] numbers) {
        for (long number : numbers) {
            list.add(number);
        }
    }

    // ---- small things

    private Thing held(int slot) {
        return stack.peek()[slot];
    }

    private int hold(int slot, Thing thing) {
        stack.peek()[slot] = thing;
        return number(thing);
    }

    private static int number(Thing thing) {
        return thing == null ? -1 : thing.number;
    }

    private static boolean isReference(Thing thing) {
        return thing != null && thing.form >= 3 && thing.form <= 5;
    }

    private void slot(int slot) {
        index(slot >= 0 && slot < stack.peek().length);
    }

    private static void index(boolean is) {
        if (!is) {
            throw new IndexOutOfBoundsException();
        }
    }

    private static void argument(boolean is) {
        if (!is) {
            throw new IllegalArgumentException();
        }
    }

    private static void state(boolean is) {
        if (!is) {
            throw new IllegalStateException();
        }
    }
}
