/** The memory of a language's runtime, and its garbage collector. */
public final class RuntimeHeap {
    private static final int NONE = -1;

    private static final int PLAIN = 0;
    private static final int ROW = 1;
    private static final int TEXT = 2;
    private static final int WEAK = 3;
    private static final int SOFT = 4;
    private static final int PHANTOM = 5;
    private static final int TABLE = 6;

    private static final int MOST_KINDS = 12;
    private static final int MOST_OWN_FIELDS = 4;
    private static final int MOST_FIELDS = 8;
    private static final int MOST_FRAMES = 8;
    private static final int MOST_SLOTS = 8;
    private static final int GLOBALS = 8;
    private static final int MOST_PLACES = 40;
    private static final int MOST_BYTES = 120;
    private static final int MOST_ENTRIES = 16;
    private static final int MOST_VISITS = 50;
    private static final int MOST_TENURE = 4;
    private static final int FIRST_TENURE = 2;
    private static final int YOUNG_ROOM = 96;
    private static final int OLD_ROOM = 320;
    private static final int MOST_WORDS_OF_A_YOUNG_ONE = 32;
    private static final int MOST_WORDS_FOR_A_YOUNG_COLLECTION = 320;

    // No object takes fewer than 2 words, so no more can be PRESENT at once.
    private static final int CELLS = (YOUNG_ROOM + OLD_ROOM) / 2;
    // A word holds a reference, a number, or up to 4 bytes.
    private static final int ROOM_FOR_DATA = (YOUNG_ROOM + OLD_ROOM) * 4;

    private static final int MOST_IMAGE_NUMBERS = 400;
    private static final int INTERNED_IN_IMAGE = 3;
    private static final int MALFORMED = -2;

    // The ways to collect, in the order in which whoever wants room has them done.
    private static final int AT_END_OF_MARKING = 0;
    private static final int YOUNG_ONES = 1;
    private static final int ALL = 2;
    private static final int ALL_PRESSED = 3;

    private static final long DIGEST_START = 58002L;

    private final Kinds kindList;
    private final Things things;
    private final Roots roots;
    private final Reach reach;
    private final Marking marking;
    private final Collector collector;
    private final Copier copier;
    private final Image image;
    private final Survey survey;

    public RuntimeHeap() {
        kindList = new Kinds();
        things = new Things(kindList);
        roots = new Roots();
        reach = new Reach(things);
        marking = new Marking(things, roots, reach);
        collector = new Collector(things, roots, reach, marking);
        copier = new Copier(things, reach, collector);
        image = new Image(things, reach, collector, marking);
        survey = new Survey(things, roots, reach);
    }

    // ---- kinds, frames, slots

    public int defineKind(int parent, int references, int numbers, boolean isFinal)
            throws IndexOutOfBoundsException, IllegalArgumentException, IllegalStateException {
        if (parent != NONE) {
            needKind(parent);
        }
        boolean isEachInRange = references >= 0 && references <= MOST_OWN_FIELDS
                && numbers >= 0 && numbers <= MOST_OWN_FIELDS;
        if (!isEachInRange
                || kindList.referencesWith(parent, references) > MOST_FIELDS
                || kindList.numbersWith(parent, numbers) > MOST_FIELDS) {
            throw new IllegalArgumentException("too many or too few fields");
        }
        if (kindList.count >= MOST_KINDS) {
            throw new IllegalStateException("there are as many kinds as there can be");
        }
        return kindList.add(parent, references, numbers, isFinal);
    }

    public int push(int slots) throws IllegalArgumentException, IllegalStateException {
        if (slots < 1 || slots > MOST_SLOTS) {
            throw new IllegalArgumentException("a frame has 1 to 8 slots");
        }
        if (roots.frameCount >= MOST_FRAMES) {
            throw new IllegalStateException("there are as many frames as there can be");
        }
        roots.addFrame(slots);
        return roots.frameCount;
    }

    public int pop(int slot) throws IndexOutOfBoundsException, IllegalStateException {
        needSlot(slot);
        if (roots.frameCount <= 1) {
            throw new IllegalStateException("the only frame stays");
        }
        int held = roots.heldBy(slot);
        roots.dropFrame();
        roots.hold(0, held);
        return things.nameOf(held);
    }

    public int assign(int to, int from) throws IndexOutOfBoundsException {
        needSlot(to);
        needSlot(from);
        return holdAndTell(to, roots.heldBy(from));
    }

    public int clear(int slot) throws IndexOutOfBoundsException {
        needSlot(slot);
        int held = roots.heldBy(slot);
        roots.hold(slot, NONE);
        return things.nameOf(held);
    }

    public int toGlobal(int global, int from) throws IndexOutOfBoundsException {
        needGlobal(global);
        needSlot(from);
        int before = roots.globals[global];
        roots.globals[global] = roots.heldBy(from);
        return things.nameOf(before);
    }

    public int fromGlobal(int to, int global) throws IndexOutOfBoundsException {
        needSlot(to);
        needGlobal(global);
        return holdAndTell(to, roots.globals[global]);
    }

    // ---- making objects

    public int newObject(int to, int kind) throws IndexOutOfBoundsException, IllegalArgumentException {
        needSlot(to);
        if (!kindList.has(kind)) {
            throw new IllegalArgumentException("there is no such kind");
        }
        return things.nameOf(makeInto(to, PLAIN, kind, kindList.references[kind]));
    }

    public int newRow(int to, int length) throws IndexOutOfBoundsException, IllegalArgumentException {
        needSlot(to);
        needBetween(length, 0, MOST_PLACES);
        return things.nameOf(makeInto(to, ROW, NONE, length));
    }

    public int newText(int to, int length) throws IndexOutOfBoundsException, IllegalArgumentException {
        needSlot(to);
        needBetween(length, 0, MOST_BYTES);
        return things.nameOf(makeInto(to, TEXT, NONE, length));
    }

    public int newWeak(int to, int of, boolean isQueued)
            throws IndexOutOfBoundsException, IllegalArgumentException {
        needSlot(to);
        int referent = needHeld(of);
        return pointAt(makeInto(to, WEAK, NONE, 1), referent, isQueued);
    }

    public int newSoft(int to, int of, boolean isQueued)
            throws IndexOutOfBoundsException, IllegalArgumentException {
        needSlot(to);
        int referent = needHeld(of);
        return pointAt(makeInto(to, SOFT, NONE, 1), referent, isQueued);
    }

    public int newPhantom(int to, int of) throws IndexOutOfBoundsException, IllegalArgumentException {
        needSlot(to);
        int referent = needHeld(of);
        return pointAt(makeInto(to, PHANTOM, NONE, 1), referent, true);
    }

    public int newTable(int to, int capacity) throws IndexOutOfBoundsException, IllegalArgumentException {
        needSlot(to);
        needBetween(capacity, 1, MOST_ENTRIES);
        return things.nameOf(makeInto(to, TABLE, NONE, capacity));
    }

    // ---- fields, places, bytes

    public int load(int to, int holder, int place) throws IndexOutOfBoundsException, IllegalArgumentException {
        needSlot(to);
        needSlot(holder);
        return holdAndTell(to, things.data[needField(holder, place)]);
    }

    public int store(int holder, int place, int from) throws IndexOutOfBoundsException, IllegalArgumentException {
        needSlot(holder);
        needSlot(from);
        int at = needField(holder, place);
        int before = things.data[at];
        things.data[at] = roots.heldBy(from);
        return things.nameOf(before);
    }

    public int getNumber(int holder, int field) throws IndexOutOfBoundsException, IllegalArgumentException {
        needSlot(holder);
        return things.data[needNumberField(holder, field)];
    }

    public int setNumber(int holder, int field, int value)
            throws IndexOutOfBoundsException, IllegalArgumentException {
        needSlot(holder);
        int at = needNumberField(holder, field);
        int before = things.data[at];
        things.data[at] = value;
        return before;
    }

    public int getByte(int text, int place) throws IndexOutOfBoundsException, IllegalArgumentException {
        needSlot(text);
        return things.data[needByte(text, place)];
    }

    public int setByte(int text, int place, int value)
            throws IndexOutOfBoundsException, IllegalArgumentException, IllegalStateException {
        needSlot(text);
        int at = needByte(text, place);
        needBetween(value, 0, 255);
        if (isInterned(text)) {
            throw new IllegalStateException("an INTERNED TEXT stays as it is");
        }
        int before = things.data[at];
        things.data[at] = value;
        return before;
    }

    // ---- references that do not hold, rows of what has gone

    public int read(int to, int reference) throws IndexOutOfBoundsException, IllegalArgumentException {
        needSlot(to);
        int cell = needReference(reference, SOFT);
        int referent = things.referentOf(cell);
        marking.noteRead(referent);
        return holdAndTell(to, referent);
    }

    public boolean refersTo(int reference, int slot) throws IndexOutOfBoundsException, IllegalArgumentException {
        needSlot(slot);
        int referent = things.referentOf(needReference(reference, PHANTOM));
        return referent != NONE && referent == roots.heldBy(slot);
    }

    public boolean forget(int reference) throws IndexOutOfBoundsException, IllegalArgumentException {
        int cell = needReference(reference, PHANTOM);
        boolean hadOne = things.referentOf(cell) != NONE;
        things.setReferent(cell, NONE);
        return hadOne;
    }

    public int poll(int to) throws IndexOutOfBoundsException {
        needSlot(to);
        return takeFrom(roots.queue, to);
    }

    public int takeLast(int to) throws IndexOutOfBoundsException {
        needSlot(to);
        return takeFrom(roots.lastRow, to);
    }

    // ---- tables

    public boolean put(int table, int key, int value) throws IndexOutOfBoundsException, IllegalArgumentException {
        needSlot(value);
        int cell = needTable(table, key);
        int keyCell = roots.heldBy(key);
        int entry = things.entryWith(cell, keyCell);
        if (entry == NONE) {
            entry = things.entryWith(cell, NONE);
        }
        if (entry == NONE) {
            return false;
        }
        things.setEntry(entry, keyCell, roots.heldBy(value));
        return true;
    }

    public int get(int to, int table, int key) throws IndexOutOfBoundsException, IllegalArgumentException {
        needSlot(to);
        int entry = things.entryWith(needTable(table, key), roots.heldBy(key));
        return holdAndTell(to, entry == NONE ? NONE : things.data[entry + 1]);
    }

    public boolean remove(int table, int key) throws IndexOutOfBoundsException, IllegalArgumentException {
        int entry = things.entryWith(needTable(table, key), roots.heldBy(key));
        if (entry == NONE) {
            return false;
        }
        things.setEntry(entry, NONE, NONE);
        return true;
    }

    // ---- texts of which there is one, copies, images

    public int intern(int to, int text) throws IndexOutOfBoundsException, IllegalArgumentException {
        needSlot(to);
        if (formOf(text) != TEXT) {
            throw new IllegalArgumentException("the slot holds no TEXT");
        }
        int cell = roots.heldBy(text);
        int found = things.findInterned(things.data, things.starts[cell], things.lengths[cell]);
        if (found == NONE) {
            things.interned[cell] = true;
            return holdAndTell(to, cell);
        }
        marking.noteRead(found);
        return holdAndTell(to, found);
    }

    public int deepCopy(int to, int from) throws IndexOutOfBoundsException, IllegalArgumentException {
        needSlot(to);
        needSlot(from);
        int cell = needNetOf(from);
        int copy = things.interned[cell] ? cell : copier.copyNet(cell);
        if (copy == NONE) {
            return NONE;
        }
        return holdAndTell(to, copy);
    }

    public int writeImage(int from) throws IndexOutOfBoundsException, IllegalArgumentException {
        needSlot(from);
        return image.write(needNetOf(from));
    }

    public int setImage(int place, int value) throws IndexOutOfBoundsException {
        needImagePlace(place);
        int before = image.row[place];
        image.row[place] = value;
        return before;
    }

    public int readImage(int to) throws IndexOutOfBoundsException {
        needSlot(to);
        int words = image.wordsWanted();
        if (words == NONE) {
            return MALFORMED;
        }
        if (!collector.findRoom(words)) {
            return NONE;
        }
        return holdAndTell(to, image.makeAll(words > MOST_WORDS_OF_A_YOUNG_ONE));
    }

    // ---- collecting

    public int setTenure(int age) throws IllegalArgumentException {
        needBetween(age, 1, MOST_TENURE);
        int before = collector.tenure;
        collector.tenure = age;
        return before;
    }

    public int collectYoung() throws IllegalStateException {
        needNoMarking();
        return collector.collect(YOUNG_ONES);
    }

    public int collectAll(boolean isPressed) throws IllegalStateException {
        needNoMarking();
        return collector.collect(isPressed ? ALL_PRESSED : ALL);
    }

    public int beginMarking() throws IllegalStateException {
        needNoMarking();
        return marking.start();
    }

    public int step(int visits) throws IllegalArgumentException, IllegalStateException {
        needBetween(visits, 1, MOST_VISITS);
        if (!marking.isOn) {
            throw new IllegalStateException("marking is off");
        }
        int visited = marking.visitUpTo(visits);
        if (marking.isAllVisited()) {
            collector.collect(AT_END_OF_MARKING);
        }
        return visited;
    }

    // ---- frames and kinds, asked

    public int frames() {
        return roots.frameCount;
    }

    public int slots() {
        return roots.topWidth();
    }

    public int kinds() {
        return kindList.count;
    }

    public int referencesOf(int kind) throws IndexOutOfBoundsException {
        needKind(kind);
        return kindList.references[kind];
    }

    public int numbersOf(int kind) throws IndexOutOfBoundsException {
        needKind(kind);
        return kindList.numbers[kind];
    }

    public boolean isFinal(int kind) throws IndexOutOfBoundsException {
        needKind(kind);
        return kindList.finals[kind];
    }

    public boolean isKindOf(int kind, int ancestor) throws IndexOutOfBoundsException {
        needKind(kind);
        needKind(ancestor);
        return kindList.comesFrom(kind, ancestor);
    }

    // ---- what a slot holds, asked

    public int numberOf(int slot) throws IndexOutOfBoundsException {
        needSlot(slot);
        return things.nameOf(roots.heldBy(slot));
    }

    public int globalNumber(int global) throws IndexOutOfBoundsException {
        needGlobal(global);
        return things.nameOf(roots.globals[global]);
    }

    public int formOf(int slot) throws IndexOutOfBoundsException {
        needSlot(slot);
        int cell = roots.heldBy(slot);
        return cell == NONE ? NONE : things.forms[cell];
    }

    public int kindOf(int slot) throws IndexOutOfBoundsException {
        needSlot(slot);
        int cell = roots.heldBy(slot);
        return cell == NONE ? NONE : things.kinds[cell];
    }

    public int lengthOf(int slot) throws IndexOutOfBoundsException {
        needSlot(slot);
        int cell = roots.heldBy(slot);
        return cell == NONE ? NONE : things.lengths[cell];
    }

    public int wordsOf(int slot) throws IndexOutOfBoundsException {
        needSlot(slot);
        int cell = roots.heldBy(slot);
        return cell == NONE ? 0 : things.words[cell];
    }

    public int ageOf(int slot) throws IndexOutOfBoundsException {
        needSlot(slot);
        int cell = roots.heldBy(slot);
        return cell == NONE ? NONE : things.ages[cell];
    }

    public boolean isOld(int slot) throws IndexOutOfBoundsException {
        needSlot(slot);
        int cell = roots.heldBy(slot);
        return cell != NONE && things.old[cell];
    }

    public boolean isFinalized(int slot) throws IndexOutOfBoundsException {
        needSlot(slot);
        int cell = roots.heldBy(slot);
        return cell != NONE && things.finalized[cell];
    }

    public boolean isInterned(int slot) throws IndexOutOfBoundsException {
        needSlot(slot);
        int cell = roots.heldBy(slot);
        return cell != NONE && things.interned[cell];
    }

    public boolean isCleared(int slot) throws IndexOutOfBoundsException {
        needSlot(slot);
        int cell = roots.heldBy(slot);
        return cell != NONE && things.isReference(cell) && things.referentOf(cell) == NONE;
    }

    public int entriesOf(int slot) throws IndexOutOfBoundsException {
        needSlot(slot);
        int cell = roots.heldBy(slot);
        boolean isTable = cell != NONE && things.forms[cell] == TABLE;
        return isTable ? things.countEntries(cell) : NONE;
    }

    // ---- the whole memory, asked

    public int objects() {
        return things.count;
    }

    public int youngObjects() {
        return things.countYoung();
    }

    public int youngWords() {
        return things.youngWords;
    }

    public int oldWords() {
        return things.oldWords;
    }

    public int made() {
        return things.made;
    }

    public int queued() {
        return roots.queue.size;
    }

    public int lasts() {
        return roots.lastRow.size;
    }

    public int interned() {
        return things.countInterned();
    }

    public int youngCollections() {
        return collector.youngCount;
    }

    public int fullCollections() {
        return collector.fullCount;
    }

    public boolean isMarking() {
        return marking.isOn;
    }

    public int tenure() {
        return collector.tenure;
    }

    public int imageLength() {
        return image.length;
    }

    public int imageAt(int place) throws IndexOutOfBoundsException {
        needImagePlace(place);
        return image.row[place];
    }

    // ---- what would be, and who holds whom

    public boolean isPresent(int number) {
        return things.cellOf(number) != NONE;
    }

    public boolean isReached(int number) {
        survey.findReached(NONE);
        return survey.reached.contains(things.cellOf(number));
    }

    public int distance(int number) {
        survey.findNear();
        return survey.stepsTo(things.cellOf(number));
    }

    public int wouldRemove(boolean isPressed) {
        return collector.countDoomed(isPressed);
    }

    public int retained(int slot) throws IndexOutOfBoundsException, IllegalArgumentException {
        int cell = needHeld(slot);
        return survey.reachedWords(NONE) - survey.reachedWords(cell);
    }

    public int heaviest() {
        return things.nameOf(survey.findHeaviest());
    }

    public boolean onCircle(int slot) throws IndexOutOfBoundsException, IllegalArgumentException {
        return survey.leadsBackTo(needHeld(slot));
    }

    public int referrers(int slot) throws IndexOutOfBoundsException, IllegalArgumentException {
        return survey.countHolders(needHeld(slot));
    }

    public boolean sameShape(int one, int other) throws IndexOutOfBoundsException, IllegalArgumentException {
        // Both have to be slots ahead of either having to hold something.
        needSlot(other);
        return survey.areAlike(needHeld(one), needHeld(other));
    }

    public int flaws() {
        return survey.countFlaws();
    }

    public double meanWords() {
        if (things.count == 0) {
            return 0;
        }
        return (double) (things.youngWords + things.oldWords) / things.count;
    }

    public long digest() {
        long sum = mixMemory(DIGEST_START);
        for (int slot = 0; slot < roots.topWidth(); slot++) {
            sum = mixSlot(sum, slot);
        }
        for (int global = 0; global < GLOBALS; global++) {
            sum = mix(sum, globalNumber(global));
        }
        sum = mixObjects(sum);
        sum = mix(sum, image.length);
        for (int place = 0; place < image.length; place++) {
            sum = mix(sum, image.row[place]);
        }
        return sum;
    }

    private long mixMemory(long start) {
        long sum = mix(start, frames());
        sum = mix(sum, slots());
        sum = mix(sum, kinds());
        sum = mix(sum, objects());
        sum = mix(sum, youngObjects());
        sum = mix(sum, youngWords());
        sum = mix(sum, oldWords());
        sum = mix(sum, made());
        sum = mix(sum, queued());
        sum = mix(sum, lasts());
        sum = mix(sum, interned());
        sum = mix(sum, youngCollections());
        sum = mix(sum, fullCollections());
        sum = mix(sum, isMarking() ? 1 : 0);
        sum = mix(sum, tenure());
        sum = mix(sum, wouldRemove(false));
        return mix(sum, wouldRemove(true));
    }

    private long mixSlot(long start, int slot) {
        long sum = mix(start, numberOf(slot));
        sum = mix(sum, formOf(slot));
        sum = mix(sum, kindOf(slot));
        sum = mix(sum, lengthOf(slot));
        sum = mix(sum, wordsOf(slot));
        sum = mix(sum, ageOf(slot));
        sum = mix(sum, isOld(slot) ? 1 : 0);
        sum = mix(sum, isFinalized(slot) ? 1 : 0);
        sum = mix(sum, isInterned(slot) ? 1 : 0);
        sum = mix(sum, isCleared(slot) ? 1 : 0);
        return mix(sum, entriesOf(slot));
    }

    private long mixObjects(long start) {
        survey.findReached(NONE);
        survey.findNear();
        long sum = start;
        for (int i = 0; i < things.count; i++) {
            int cell = things.order[i];
            sum = mix(sum, things.numbers[cell]);
            sum = mix(sum, survey.reached.contains(cell) ? 1 : 0);
            sum = mix(sum, survey.stepsTo(cell));
        }
        return sum;
    }

    private static long mix(long sum, long number) {
        return sum * 31 + number;
    }

    // ---- what arguments have to be

    private void needSlot(int slot) {
        if (slot < 0 || slot >= roots.topWidth()) {
            throw new IndexOutOfBoundsException("there is no such slot");
        }
    }

    private void needGlobal(int global) {
        if (global < 0 || global >= GLOBALS) {
            throw new IndexOutOfBoundsException("there is no such global");
        }
    }

    private void needKind(int kind) {
        if (!kindList.has(kind)) {
            throw new IndexOutOfBoundsException("there is no such kind");
        }
    }

    private void needImagePlace(int place) {
        if (place < 0 || place >= image.length) {
            throw new IndexOutOfBoundsException("the IMAGE has no such place");
        }
    }

    private void needBetween(int value, int least, int most) {
        if (value < least || value > most) {
            throw new IllegalArgumentException("the value is out of its range");
        }
    }

    private void needNoMarking() {
        if (marking.isOn) {
            throw new IllegalStateException("marking is on");
        }
    }

    private int needHeld(int slot) {
        needSlot(slot);
        int cell = roots.heldBy(slot);
        if (cell == NONE) {
            throw new IllegalArgumentException("the slot holds nothing");
        }
        return cell;
    }

    private int needField(int holder, int place) {
        int cell = roots.heldBy(holder);
        if (cell == NONE || place < 0 || place >= things.fieldsOf(cell)) {
            throw new IllegalArgumentException("there is no such field or place");
        }
        return things.starts[cell] + place;
    }

    private int needNumberField(int holder, int field) {
        int cell = roots.heldBy(holder);
        if (cell == NONE || things.forms[cell] != PLAIN
                || field < 0 || field >= things.sizeOf(cell) - things.lengths[cell]) {
            throw new IllegalArgumentException("there is no such number field");
        }
        return things.starts[cell] + things.lengths[cell] + field;
    }

    private int needByte(int text, int place) {
        int cell = roots.heldBy(text);
        if (cell == NONE || things.forms[cell] != TEXT || place < 0 || place >= things.lengths[cell]) {
            throw new IllegalArgumentException("there is no such byte");
        }
        return things.starts[cell] + place;
    }

    private int needReference(int slot, int lastForm) {
        needSlot(slot);
        int cell = roots.heldBy(slot);
        if (cell == NONE || things.forms[cell] < WEAK || things.forms[cell] > lastForm) {
            throw new IllegalArgumentException("the slot holds no such reference");
        }
        return cell;
    }

    private int needTable(int table, int key) {
        needSlot(table);
        needSlot(key);
        int cell = roots.heldBy(table);
        if (cell == NONE || things.forms[cell] != TABLE || roots.heldBy(key) == NONE) {
            throw new IllegalArgumentException("there is no TABLE, or no key");
        }
        return cell;
    }

    private int needNetOf(int slot) {
        int cell = roots.heldBy(slot);
        if (cell == NONE || things.forms[cell] > TEXT) {
            throw new IllegalArgumentException("the slot holds no PLAIN, ROW or TEXT");
        }
        return cell;
    }

    // ---- what several methods of the face do

    private int holdAndTell(int slot, int cell) {
        roots.hold(slot, cell);
        return things.nameOf(cell);
    }

    private int makeInto(int to, int form, int kind, int length) {
        int words = wordsFor(form, things.sizeFor(form, kind, length));
        if (!collector.findRoom(words)) {
            return NONE;
        }
        int cell = collector.make(form, kind, length, words > MOST_WORDS_OF_A_YOUNG_ONE);
        roots.hold(to, cell);
        return cell;
    }

    private int pointAt(int reference, int referent, boolean isQueued) {
        if (reference == NONE) {
            return NONE;
        }
        things.setReferent(reference, referent);
        things.queued[reference] = isQueued;
        return things.nameOf(reference);
    }

    private int takeFrom(Line line, int to) {
        int cell = line.takeFirst();
        if (cell == NONE) {
            return NONE;
        }
        return holdAndTell(to, cell);
    }

    private static int wordsFor(int form, int size) {
        return 2 + (form == TEXT ? (size + 3) / 4 : size);
    }

    /** The kinds that were defined. */
    private static final class Kinds {
        private final int[] parents = new int[MOST_KINDS];
        private final int[] references = new int[MOST_KINDS];
        private final int[] numbers = new int[MOST_KINDS];
        private final boolean[] finals = new boolean[MOST_KINDS];
        private int count;

        boolean has(int kind) {
            return kind >= 0 && kind < count;
        }

        int referencesWith(int parent, int own) {
            return has(parent) ? references[parent] + own : own;
        }

        int numbersWith(int parent, int own) {
            return has(parent) ? numbers[parent] + own : own;
        }

        int add(int parent, int ownReferences, int ownNumbers, boolean isSaidFinal) {
            int kind = count;
            if (kind >= MOST_KINDS) {
                return NONE;
            }
            parents[kind] = parent;
            references[kind] = referencesWith(parent, ownReferences);
            numbers[kind] = numbersWith(parent, ownNumbers);
            finals[kind] = isSaidFinal || (has(parent) && finals[parent]);
            count++;
            return kind;
        }

        boolean comesFrom(int kind, int ancestor) {
            int at = kind;
            for (int level = 0; level < MOST_KINDS && has(at); level++) {
                if (at == ancestor) {
                    return true;
                }
                at = parents[at];
            }
            return false;
        }
    }

    /** A set of cells, in the order in which they came into it. */
    private static final class CellSet {
        private final boolean[] isIn = new boolean[CELLS];
        private final int[] row = new int[CELLS];
        private int size;

        // This one stays outside, so that one can ask what would be without it.
        private int barred = NONE;

        boolean contains(int cell) {
            return cell >= 0 && cell < CELLS && isIn[cell];
        }

        void include(int cell) {
            if (cell < 0 || cell >= CELLS || isIn[cell] || cell == barred) {
                return;
            }
            isIn[cell] = true;
            row[size] = cell;
            size++;
        }

        void includeAll(CellSet other) {
            for (int i = 0; i < other.size; i++) {
                include(other.row[i]);
            }
        }

        void makeEmpty() {
            for (int i = 0; i < size; i++) {
                isIn[row[i]] = false;
            }
            size = 0;
        }
    }

    /** Cells that wait one behind another. */
    private static final class Line {
        private final int[] row = new int[CELLS];
        private int size;

        void append(int cell) {
            if (size < CELLS) {
                row[size] = cell;
                size++;
            }
        }

        int takeFirst() {
            if (size == 0) {
                return NONE;
            }
            int first = row[0];
            size--;
            System.arraycopy(row, 1, row, 0, size);
            return first;
        }
    }

    /** Frames with their slots, globals, the QUEUE and the LAST ROW. */
    private static final class Roots {
        private final int[] slots = new int[MOST_FRAMES * MOST_SLOTS];
        private final int[] widths = new int[MOST_FRAMES];
        private final int[] globals = new int[GLOBALS];
        private final Line queue = new Line();
        private final Line lastRow = new Line();
        private int frameCount;

        Roots() {
            addFrame(MOST_SLOTS);
            for (int i = 0; i < GLOBALS; i++) {
                globals[i] = NONE;
            }
        }

        int topWidth() {
            return widths[frameCount - 1];
        }

        int heldBy(int slot) {
            return slots[(frameCount - 1) * MOST_SLOTS + slot];
        }

        void hold(int slot, int cell) {
            slots[(frameCount - 1) * MOST_SLOTS + slot] = cell;
        }

        void addFrame(int width) {
            widths[frameCount] = width;
            frameCount++;
            for (int slot = 0; slot < width; slot++) {
                hold(slot, NONE);
            }
        }

        void dropFrame() {
            frameCount--;
        }

        void addTo(CellSet set) {
            for (int frame = 0; frame < frameCount; frame++) {
                for (int slot = 0; slot < widths[frame]; slot++) {
                    set.include(slots[frame * MOST_SLOTS + slot]);
                }
            }
            for (int i = 0; i < GLOBALS; i++) {
                set.include(globals[i]);
            }
            for (int i = 0; i < queue.size; i++) {
                set.include(queue.row[i]);
            }
            for (int i = 0; i < lastRow.size; i++) {
                set.include(lastRow.row[i]);
            }
        }
    }

    /** The PRESENT objects: each has a cell until it is removed, and a stretch of the data. */
    private static final class Things {
        private final Kinds kindList;
        private final int[] numbers = new int[CELLS];
        private final int[] forms = new int[CELLS];
        private final int[] kinds = new int[CELLS];
        private final int[] lengths = new int[CELLS];
        private final int[] words = new int[CELLS];
        private final int[] starts = new int[CELLS];
        private final int[] ages = new int[CELLS];
        private final boolean[] old = new boolean[CELLS];
        private final boolean[] finalized = new boolean[CELLS];
        private final boolean[] interned = new boolean[CELLS];
        private final boolean[] queued = new boolean[CELLS];

        // References first (as cells), then numbers or bytes; a TABLE has its entries, key and value in turn.
        private final int[] data = new int[ROOM_FOR_DATA];
        // The cells of PRESENT objects by rising numbers, and behind them those that are free.
        private final int[] order = new int[CELLS];
        private final int[] freed = new int[CELLS];
        private int count;
        private int used;
        private int made;
        private int youngWords;
        private int oldWords;

        Things(Kinds kindList) {
            this.kindList = kindList;
            for (int cell = 0; cell < CELLS; cell++) {
                order[cell] = cell;
            }
        }

        int sizeFor(int form, int kind, int length) {
            if (form == PLAIN) {
                return kindList.has(kind) ? length + kindList.numbers[kind] : length;
            }
            return form == TABLE ? 2 * length : length;
        }

        int add(int form, int kind, int length, boolean isOld) {
            int size = sizeFor(form, kind, length);
            if (count >= CELLS || size < 0 || used + size > ROOM_FOR_DATA) {
                return NONE;
            }
            int cell = order[count];
            count++;
            numbers[cell] = made;
            made++;
            forms[cell] = form;
            kinds[cell] = kind;
            lengths[cell] = length;
            words[cell] = wordsFor(form, size);
            starts[cell] = used;
            ages[cell] = 0;
            old[cell] = isOld;
            finalized[cell] = false;
            interned[cell] = false;
            for (int i = 0; i < size; i++) {
                data[used + i] = form == TEXT || (form == PLAIN && i >= length) ? 0 : NONE;
            }
            used += size;
            addWords(isOld, words[cell]);
            return cell;
        }

        private void addWords(boolean isOld, int more) {
            if (isOld) {
                oldWords += more;
            } else {
                youngWords += more;
            }
        }

        int nameOf(int cell) {
            return cell == NONE ? NONE : numbers[cell];
        }

        int cellOf(int number) {
            for (int i = 0; i < count; i++) {
                if (numbers[order[i]] == number) {
                    return order[i];
                }
            }
            return NONE;
        }

        /** How many references, numbers and bytes stand in its stretch of the data. */
        int sizeOf(int cell) {
            return forms[cell] == TEXT ? lengths[cell] : words[cell] - 2;
        }

        int fieldsOf(int cell) {
            return forms[cell] <= ROW ? lengths[cell] : 0;
        }

        boolean isReference(int cell) {
            return forms[cell] >= WEAK && forms[cell] <= PHANTOM;
        }

        boolean awaitsLastRow(int cell) {
            return forms[cell] == PLAIN && kindList.has(kinds[cell]) && kindList.finals[kinds[cell]]
                    && !finalized[cell];
        }

        int referentOf(int cell) {
            return data[starts[cell]];
        }

        void setReferent(int cell, int referent) {
            data[starts[cell]] = referent;
        }

        /** Where the entry of a key begins in the data; that of a free entry for NONE. */
        int entryWith(int table, int key) {
            for (int i = 0; i < lengths[table]; i++) {
                int entry = starts[table] + 2 * i;
                if (data[entry] == key) {
                    return entry;
                }
            }
            return NONE;
        }

        void setEntry(int entry, int key, int value) {
            data[entry] = key;
            data[entry + 1] = value;
        }

        int countEntries(int table) {
            int entries = 0;
            for (int i = 0; i < lengths[table]; i++) {
                if (data[starts[table] + 2 * i] != NONE) {
                    entries++;
                }
            }
            return entries;
        }

        int findInterned(int[] bytes, int from, int length) {
            for (int i = 0; i < count; i++) {
                int cell = order[i];
                if (interned[cell] && lengths[cell] == length && isLike(cell, bytes, from)) {
                    return cell;
                }
            }
            return NONE;
        }

        boolean isLike(int text, int[] bytes, int from) {
            for (int i = 0; i < lengths[text]; i++) {
                if (data[starts[text] + i] != bytes[from + i]) {
                    return false;
                }
            }
            return true;
        }

        int countYoung() {
            int young = 0;
            for (int i = 0; i < count; i++) {
                if (!old[order[i]]) {
                    young++;
                }
            }
            return young;
        }

        int countInterned() {
            int texts = 0;
            for (int i = 0; i < count; i++) {
                if (interned[order[i]]) {
                    texts++;
                }
            }
            return texts;
        }

        void removeAllBut(CellSet kept) {
            int stay = 0;
            int gone = 0;
            used = 0;
            for (int i = 0; i < count; i++) {
                int cell = order[i];
                if (kept.contains(cell)) {
                    slideDown(cell);
                    order[stay] = cell;
                    stay++;
                } else {
                    addWords(old[cell], -words[cell]);
                    freed[gone] = cell;
                    gone++;
                }
            }
            System.arraycopy(freed, 0, order, stay, gone);
            count = stay;
        }

        private void slideDown(int cell) {
            int size = sizeOf(cell);
            System.arraycopy(data, starts[cell], data, used, size);
            starts[cell] = used;
            used += size;
        }

        void makeOlder(int tenure) {
            for (int i = 0; i < count; i++) {
                int cell = order[i];
                if (!old[cell]) {
                    ages[cell]++;
                    if (ages[cell] >= tenure) {
                        makeOld(cell);
                    }
                }
            }
        }

        void makeOldAsFarAsTheyFit() {
            for (int i = 0; i < count; i++) {
                int cell = order[i];
                if (!old[cell] && oldWords + words[cell] <= OLD_ROOM) {
                    makeOld(cell);
                }
            }
        }

        private void makeOld(int cell) {
            old[cell] = true;
            youngWords -= words[cell];
            oldWords += words[cell];
        }
    }

    /** Who is reached, and to whom one comes by fields and places. */
    private static final class Reach {
        private final Things things;
        private final int[] steps = new int[CELLS];

        Reach(Things things) {
            this.things = things;
        }

        /** Adds to a set all that is reached from it, by the data of now or by those of the PICTURE. */
        void spread(CellSet set, int[] data, boolean isPressed) {
            boolean isOpen = true;
            // A key may be reached behind its TABLE: so all is looked at again until nothing is added.
            for (int round = 0; isOpen && round <= CELLS; round++) {
                int before = set.size;
                boolean hasTable = false;
                for (int at = 0; at < set.size && at < CELLS; at++) {
                    int cell = set.row[at];
                    int start = things.starts[cell];
                    boolean isTable = things.forms[cell] == TABLE;
                    int parts = isTable || isHolding(things.forms[cell], isPressed) ? things.lengths[cell] : 0;
                    for (int i = 0; i < parts; i++) {
                        if (!isTable) {
                            set.include(data[start + i]);
                        } else if (set.contains(data[start + 2 * i])) {
                            set.include(data[start + 2 * i + 1]);
                        }
                    }
                    hasTable = hasTable || isTable;
                }
                isOpen = hasTable && set.size > before;
            }
        }

        private boolean isHolding(int form, boolean isPressed) {
            return form <= ROW || (form == SOFT && !isPressed);
        }

        /** Adds to a set all to which one comes by fields and places, up to a form, and counts the steps. */
        void walk(CellSet set, int lastForm) {
            for (int i = 0; i < set.size; i++) {
                steps[set.row[i]] = 0;
            }
            for (int at = 0; at < set.size && at < CELLS; at++) {
                int cell = set.row[at];
                for (int i = 0; i < things.fieldsOf(cell); i++) {
                    int held = things.data[things.starts[cell] + i];
                    if (held != NONE && things.forms[held] <= lastForm && !set.contains(held)) {
                        set.include(held);
                        steps[held] = steps[cell] + 1;
                    }
                }
            }
        }

        void findNet(CellSet net, int cell) {
            net.makeEmpty();
            net.include(cell);
            walk(net, TEXT);
        }
    }

    /** Marking in steps. */
    private static final class Marking {
        private final Things things;
        private final Roots roots;
        private final Reach reach;
        private final int[] picture = new int[ROOM_FOR_DATA];
        private final CellSet toKeep = new CellSet();
        private final CellSet madeMeanwhile = new CellSet();
        private boolean isOn;
        private int visited;

        Marking(Things things, Roots roots, Reach reach) {
            this.things = things;
            this.roots = roots;
            this.reach = reach;
        }

        int start() {
            isOn = true;
            visited = 0;
            // While marking is on nothing is removed, so cells and stretches stay where they are.
            System.arraycopy(things.data, 0, picture, 0, things.used);
            madeMeanwhile.makeEmpty();
            toKeep.makeEmpty();
            roots.addTo(toKeep);
            int held = toKeep.size;
            reach.spread(toKeep, picture, false);
            return held;
        }

        void noteMade(int cell) {
            if (isOn) {
                madeMeanwhile.include(cell);
            }
        }

        void noteRead(int cell) {
            if (isOn && cell != NONE && !madeMeanwhile.contains(cell)) {
                toKeep.include(cell);
                reach.spread(toKeep, picture, false);
            }
        }

        int visitUpTo(int most) {
            int visits = Math.min(most, toKeep.size - visited);
            visited += visits;
            return visits;
        }

        boolean isAllVisited() {
            return visited >= toKeep.size;
        }
    }

    /** Collections, and the room that they make. */
    private static final class Collector {
        private final Things things;
        private final Roots roots;
        private final Reach reach;
        private final Marking marking;
        private final CellSet strong = new CellSet();
        private final CellSet kept = new CellSet();
        private int tenure = FIRST_TENURE;
        private int youngCount;
        private int fullCount;

        Collector(Things things, Roots roots, Reach reach, Marking marking) {
            this.things = things;
            this.roots = roots;
            this.reach = reach;
            this.marking = marking;
        }

        int make(int form, int kind, int length, boolean isOld) {
            int cell = things.add(form, kind, length, isOld);
            marking.noteMade(cell);
            return cell;
        }

        boolean findRoom(int words) {
            for (int way = AT_END_OF_MARKING; way <= ALL_PRESSED; way++) {
                if (isRoomFor(words)) {
                    return true;
                }
                if (way != AT_END_OF_MARKING || marking.isOn) {
                    collect(way);
                }
            }
            return isRoomFor(words);
        }

        private boolean isRoomFor(int words) {
            if (words <= MOST_WORDS_OF_A_YOUNG_ONE) {
                return things.youngWords + words <= YOUNG_ROOM;
            }
            return things.oldWords + words <= OLD_ROOM;
        }

        int collect(int way) {
            boolean isYoung = way == YOUNG_ONES
                    && things.youngWords + things.oldWords <= MOST_WORDS_FOR_A_YOUNG_COLLECTION;
            if (way == AT_END_OF_MARKING) {
                takeStrongFromMarking();
            } else {
                findStrong(isYoung, way == ALL_PRESSED);
            }
            findKept(way == ALL_PRESSED);
            sendToLastRow();
            clearReferences();
            dropEntries();
            int removed = things.count - kept.size;
            things.removeAllBut(kept);
            if (isYoung) {
                things.makeOlder(tenure);
                youngCount++;
            } else {
                things.makeOldAsFarAsTheyFit();
                fullCount++;
            }
            return removed;
        }

        int countDoomed(boolean isPressed) {
            findStrong(false, isPressed);
            findKept(isPressed);
            return things.count - kept.size;
        }

        private void takeStrongFromMarking() {
            marking.isOn = false;
            strong.makeEmpty();
            strong.includeAll(marking.toKeep);
            strong.includeAll(marking.madeMeanwhile);
        }

        private void findStrong(boolean isYoung, boolean isPressed) {
            strong.makeEmpty();
            roots.addTo(strong);
            if (isYoung) {
                for (int i = 0; i < things.count; i++) {
                    if (things.old[things.order[i]]) {
                        strong.include(things.order[i]);
                    }
                }
            }
            reach.spread(strong, things.data, isPressed);
        }

        private void findKept(boolean isPressed) {
            kept.makeEmpty();
            kept.includeAll(strong);
            for (int i = 0; i < things.count; i++) {
                int cell = things.order[i];
                if (!strong.contains(cell) && things.awaitsLastRow(cell)) {
                    kept.include(cell);
                }
            }
            reach.spread(kept, things.data, isPressed);
        }

        private void sendToLastRow() {
            for (int i = 0; i < things.count; i++) {
                int cell = things.order[i];
                if (!strong.contains(cell) && things.awaitsLastRow(cell)) {
                    things.finalized[cell] = true;
                    roots.lastRow.append(cell);
                }
            }
        }

        private void clearReferences() {
            for (int i = 0; i < things.count; i++) {
                int cell = things.order[i];
                if (kept.contains(cell) && things.isReference(cell) && losesReferent(cell)) {
                    things.setReferent(cell, NONE);
                    if (things.queued[cell]) {
                        roots.queue.append(cell);
                    }
                }
            }
        }

        private boolean losesReferent(int cell) {
            int referent = things.referentOf(cell);
            CellSet needed = things.forms[cell] == PHANTOM ? kept : strong;
            return referent != NONE && !needed.contains(referent);
        }

        private void dropEntries() {
            for (int i = 0; i < things.count; i++) {
                int cell = things.order[i];
                if (things.forms[cell] == TABLE && kept.contains(cell)) {
                    for (int e = 0; e < things.lengths[cell]; e++) {
                        int entry = things.starts[cell] + 2 * e;
                        if (!kept.contains(things.data[entry])) {
                            things.setEntry(entry, NONE, NONE);
                        }
                    }
                }
            }
        }
    }

    /** Copies of NETS. */
    private static final class Copier {
        private final Things things;
        private final Reach reach;
        private final Collector collector;
        private final CellSet net = new CellSet();
        private final int[] copies = new int[CELLS];

        Copier(Things things, Reach reach, Collector collector) {
            this.things = things;
            this.reach = reach;
            this.collector = collector;
        }

        /** The cell of the copy, or NONE if there is no room. */
        int copyNet(int cell) {
            reach.findNet(net, cell);
            int words = 0;
            for (int i = 0; i < net.size; i++) {
                words += isCopied(net.row[i]) ? things.words[net.row[i]] : 0;
            }
            // What is held is kept, so the NET is the same behind the collections that this may need.
            if (!collector.findRoom(words)) {
                return NONE;
            }
            makeCopies(words > MOST_WORDS_OF_A_YOUNG_ONE);
            for (int i = 0; i < net.size; i++) {
                if (isCopied(net.row[i])) {
                    fillCopy(net.row[i]);
                }
            }
            return copies[cell];
        }

        private boolean isCopied(int cell) {
            return net.contains(cell) && !things.interned[cell];
        }

        private void makeCopies(boolean isOld) {
            int originals = things.count;
            for (int i = 0; i < originals; i++) {
                int cell = things.order[i];
                if (isCopied(cell)) {
                    copies[cell] = collector.make(things.forms[cell], things.kinds[cell], things.lengths[cell], isOld);
                }
            }
        }

        private void fillCopy(int cell) {
            if (copies[cell] == NONE) {
                return;
            }
            int from = things.starts[cell];
            int to = things.starts[copies[cell]];
            for (int i = 0; i < things.sizeOf(cell); i++) {
                int value = things.data[from + i];
                boolean isToCopy = i < things.fieldsOf(cell) && isCopied(value);
                things.data[to + i] = isToCopy ? copies[value] : value;
            }
        }
    }

    /** The row of numbers as which a NET is written. */
    private static final class Image {
        private final Things things;
        private final Reach reach;
        private final Collector collector;
        private final Marking marking;
        private final int[] row = new int[MOST_IMAGE_NUMBERS];
        private int length;
        private final CellSet net = new CellSet();
        // Of each object its place in the NET when writing, its cell when reading.
        private final int[] places = new int[CELLS];
        private final int[] cells = new int[MOST_IMAGE_NUMBERS];

        Image(Things things, Reach reach, Collector collector, Marking marking) {
            this.things = things;
            this.reach = reach;
            this.collector = collector;
            this.marking = marking;
        }

        int write(int cell) {
            reach.findNet(net, cell);
            int wanted = 1;
            for (int i = 0; i < net.size; i++) {
                wanted += 2 + things.sizeOf(net.row[i]);
                places[net.row[i]] = i;
            }
            if (wanted > MOST_IMAGE_NUMBERS) {
                return NONE;
            }
            length = 0;
            append(net.size);
            for (int i = 0; i < net.size; i++) {
                writeThing(net.row[i]);
            }
            return length;
        }

        private void append(int number) {
            if (length < MOST_IMAGE_NUMBERS) {
                row[length] = number;
                length++;
            }
        }

        private void writeThing(int cell) {
            append(things.interned[cell] ? INTERNED_IN_IMAGE : things.forms[cell]);
            append(things.forms[cell] == PLAIN ? things.kinds[cell] : things.lengths[cell]);
            for (int i = 0; i < things.sizeOf(cell); i++) {
                int value = things.data[things.starts[cell] + i];
                if (i < things.fieldsOf(cell)) {
                    append(net.contains(value) ? places[value] + 1 : 0);
                } else {
                    append(value);
                }
            }
        }

        /** The words of all that is written in it, or NONE if it is not well formed. */
        int wordsWanted() {
            if (length == 0 || row[0] < 1 || row[0] > MOST_IMAGE_NUMBERS) {
                return NONE;
            }
            int words = 0;
            int at = 1;
            for (int i = 0; i < row[0]; i++) {
                if (!isThingAt(at)) {
                    return NONE;
                }
                words += wordsFor(formAt(at), sizeAt(at));
                at += 2 + sizeAt(at);
            }
            return at == length ? words : NONE;
        }

        private int formAt(int at) {
            return row[at] == INTERNED_IN_IMAGE ? TEXT : row[at];
        }

        private int kindAt(int at) {
            return formAt(at) == PLAIN ? row[at + 1] : NONE;
        }

        private int lengthAt(int at) {
            return formAt(at) == PLAIN ? things.kindList.referencesWith(row[at + 1], 0) : row[at + 1];
        }

        private int sizeAt(int at) {
            return things.sizeFor(formAt(at), kindAt(at), lengthAt(at));
        }

        private boolean isThingAt(int at) {
            if (at + 1 >= length || !isHeadAt(at) || at + 2 + sizeAt(at) > length) {
                return false;
            }
            int form = formAt(at);
            for (int i = 0; i < sizeAt(at); i++) {
                int value = row[at + 2 + i];
                int most = form == TEXT ? 255 : row[0];
                boolean isAnyNumber = form == PLAIN && i >= lengthAt(at);
                if (!isAnyNumber && (value < 0 || value > most)) {
                    return false;
                }
            }
            return true;
        }

        private boolean isHeadAt(int at) {
            int form = row[at];
            int what = row[at + 1];
            if (form == PLAIN) {
                return things.kindList.has(what);
            }
            if (form == ROW) {
                return what >= 0 && what <= MOST_PLACES;
            }
            return (form == TEXT || form == INTERNED_IN_IMAGE) && what >= 0 && what <= MOST_BYTES;
        }

        /** Makes what is written; only for a well formed IMAGE, and when there is room. */
        int makeAll(boolean isOld) {
            int at = 1;
            for (int i = 0; i < row[0] && i < MOST_IMAGE_NUMBERS; i++) {
                cells[i] = makeThing(at, isOld);
                at += 2 + sizeAt(at);
            }
            at = 1;
            for (int i = 0; i < row[0] && i < MOST_IMAGE_NUMBERS; i++) {
                fillFields(cells[i], at);
                at += 2 + sizeAt(at);
            }
            return cells[0];
        }

        private int makeThing(int at, boolean isOld) {
            boolean isInternedThere = row[at] == INTERNED_IN_IMAGE;
            if (isInternedThere) {
                int found = things.findInterned(row, at + 2, row[at + 1]);
                if (found != NONE) {
                    marking.noteRead(found);
                    return found;
                }
            }
            int cell = collector.make(formAt(at), kindAt(at), lengthAt(at), isOld);
            if (cell != NONE) {
                System.arraycopy(row, at + 2, things.data, things.starts[cell], things.sizeOf(cell));
                things.interned[cell] = isInternedThere;
            }
            return cell;
        }

        // Behind makeThing a field holds the number that stands in the IMAGE, not yet an object.
        private void fillFields(int cell, int at) {
            if (cell == NONE) {
                return;
            }
            for (int i = 0; i < things.fieldsOf(cell); i++) {
                int reference = row[at + 2 + i];
                things.data[things.starts[cell] + i] = reference == 0 ? NONE : cells[reference - 1];
            }
        }
    }

    /** What is asked about who holds whom. */
    private static final class Survey {
        private final Things things;
        private final Roots roots;
        private final Reach reach;
        private final CellSet reached = new CellSet();
        private final CellSet near = new CellSet();
        // The pairs of objects that have to be alike: the first ones, their partners, and these as a set.
        private final CellSet firsts = new CellSet();
        private final int[] partners = new int[CELLS];
        private final CellSet seconds = new CellSet();

        Survey(Things things, Roots roots, Reach reach) {
            this.things = things;
            this.roots = roots;
            this.reach = reach;
        }

        /** Finds what is reached from roots, if one object could never be reached. */
        void findReached(int without) {
            reached.makeEmpty();
            reached.barred = without;
            roots.addTo(reached);
            reach.spread(reached, things.data, false);
        }

        int reachedWords(int without) {
            findReached(without);
            int words = 0;
            for (int i = 0; i < reached.size; i++) {
                words += things.words[reached.row[i]];
            }
            return words;
        }

        int findHeaviest() {
            int heaviest = NONE;
            int fewest = reachedWords(NONE);
            // One that is not reached retains nothing, so it never leaves fewer words than there are.
            for (int i = 0; i < things.count; i++) {
                int words = reachedWords(things.order[i]);
                if (words < fewest) {
                    fewest = words;
                    heaviest = things.order[i];
                }
            }
            return heaviest;
        }

        void findNear() {
            near.makeEmpty();
            roots.addTo(near);
            reach.walk(near, TABLE);
        }

        int stepsTo(int cell) {
            return near.contains(cell) ? reach.steps[cell] : NONE;
        }

        boolean leadsBackTo(int cell) {
            near.makeEmpty();
            for (int i = 0; i < things.fieldsOf(cell); i++) {
                near.include(things.data[things.starts[cell] + i]);
            }
            reach.walk(near, TABLE);
            return near.contains(cell);
        }

        int countHolders(int cell) {
            int holders = 0;
            for (int i = 0; i < things.count; i++) {
                int holder = things.order[i];
                for (int f = 0; f < things.fieldsOf(holder); f++) {
                    if (things.data[things.starts[holder] + f] == cell) {
                        holders++;
                    }
                }
            }
            return holders;
        }

        int countFlaws() {
            int flaws = 0;
            int young = 0;
            int all = 0;
            near.makeEmpty();
            for (int i = 0; i < things.count; i++) {
                int cell = things.order[i];
                near.include(cell);
                all += things.words[cell];
                young += things.old[cell] ? 0 : things.words[cell];
            }
            flaws += young == things.youngWords && young <= YOUNG_ROOM ? 0 : 1;
            flaws += all - young == things.oldWords && all - young <= OLD_ROOM ? 0 : 1;
            findReached(NONE);
            for (int i = 0; i < reached.size; i++) {
                flaws += near.contains(reached.row[i]) ? 0 : 1;
            }
            return flaws;
        }

        boolean areAlike(int one, int other) {
            firsts.makeEmpty();
            seconds.makeEmpty();
            boolean isAlike = isNewOrSamePair(one, other);
            for (int at = 0; isAlike && at < firsts.size && at < CELLS; at++) {
                int first = firsts.row[at];
                isAlike = isFitting(first, partners[first]);
            }
            return isAlike;
        }

        private boolean isNewOrSamePair(int first, int second) {
            if (firsts.contains(first)) {
                return partners[first] == second;
            }
            if (seconds.contains(second)) {
                return false;
            }
            firsts.include(first);
            seconds.include(second);
            partners[first] = second;
            return true;
        }

        private boolean isFitting(int first, int second) {
            if (things.forms[first] != things.forms[second]) {
                return false;
            }
            if (things.forms[first] > TEXT) {
                return first == second;
            }
            if (things.kinds[first] != things.kinds[second] || things.lengths[first] != things.lengths[second]) {
                return false;
            }
            for (int i = 0; i < things.sizeOf(first); i++) {
                int value = things.data[things.starts[first] + i];
                int other = things.data[things.starts[second] + i];
                boolean isField = i < things.fieldsOf(first);
                if (isField ? !isFittingField(value, other) : value != other) {
                    return false;
                }
            }
            return true;
        }

        private boolean isFittingField(int value, int other) {
            if (value == NONE || other == NONE) {
                return value == other;
            }
            return isNewOrSamePair(value, other);
        }
    }
}
