/**
 * One map from the keys 0 to 31 to ints, spread over four groups of machines.
 *
 * All that one class of keys knows (its keys and what it remembers for the clients) is a PART of
 * CELLS ints. Each group has room for every part twice: in memory, which lose() takes away, and
 * written down, which stays. A part is served by its HOLDER alone. When the holder is not the home,
 * work() copies the part cell by cell into the home's memory; only when the home has written all of
 * it down does the home become the holder. So a crash at any moment leaves one whole written part.
 */
public final class ShardedMap {
    public static final int OLD = -1;
    public static final int BAD = -2;

    private static final int KEYS = 32;
    private static final int CLIENTS = 4;
    private static final int CLASSES = 8;
    private static final int CLASS_MASK = CLASSES - 1;
    private static final int CLASS_BITS = 3;
    private static final int GROUPS = 4;
    private static final int GROUP_MASK = GROUPS - 1;
    private static final int SLOTS = KEYS / CLASSES;

    private static final int PUT = 0;
    private static final int ADD = 1;
    private static final int REMOVE = 2;

    // Where things lie in a part: the first two for each slot (key of the class), the others for
    // each client. The value of a key that is not there is kept 0, so that it need not be asked.
    private static final int THERE = 0;
    private static final int VALUE = THERE + SLOTS;
    private static final int KNOWN = VALUE + SLOTS;
    private static final int NUMBER = KNOWN + CLIENTS;
    private static final int ANSWER = NUMBER + CLIENTS;
    private static final int CELLS = ANSWER + CLIENTS;

    private static final int GROUP_CELLS = CLASSES * CELLS;
    private static final int ALL_CELLS = GROUPS * GROUP_CELLS;

    private static final int NONE = -1;

    private final int[] memory = new int[ALL_CELLS];
    private final int[] written = new int[ALL_CELLS];
    private final int[] homeOf = new int[CLASSES];
    private final int[] holderOf = new int[CLASSES];
    // How many cells of the part the home has from the holder; 0 while the home is the holder.
    private final int[] copiedOf = new int[CLASSES];

    public ShardedMap() {
        for (int class_ = 0; class_ < CLASSES; class_++) {
            homeOf[class_] = class_ & GROUP_MASK;
            holderOf[class_] = class_ & GROUP_MASK;
        }
    }

    public int put(int client, int number, int key, int value) {
        return request(PUT, client, number, key, value);
    }

    public int addTo(int client, int number, int key, int amount) {
        return request(ADD, client, number, key, amount);
    }

    public int remove(int client, int number, int key) {
        return request(REMOVE, client, number, key, 0);
    }

    public int get(int key) {
        if (isNoKey(key)) {
            return 0;
        }
        return load(key & CLASS_MASK, VALUE + (key >> CLASS_BITS));
    }

    public boolean has(int key) {
        if (isNoKey(key)) {
            return false;
        }
        return load(key & CLASS_MASK, THERE + (key >> CLASS_BITS)) == 1;
    }

    public int size(int class_) {
        int count = 0;
        for (int slot = 0; slot < SLOTS; slot++) {
            count += load(class_ & CLASS_MASK, THERE + slot);
        }
        return count;
    }

    public int lastFrom(int least) {
        for (int key = KEYS - 1; key >= 0; key--) {
            if (has(key) && get(key) >= least) {
                return key;
            }
        }
        return NONE;
    }

    public int assign(int class_, int group) {
        int part = class_ & CLASS_MASK;
        int before = homeOf[part];
        int after = group & GROUP_MASK;
        if (after != before) {
            // What the old home has of the part may grow stale from now on: nobody keeps it fresh.
            copiedOf[part] = 0;
            homeOf[part] = after;
        }
        return before;
    }

    public int home(int class_) {
        return homeOf[class_ & CLASS_MASK];
    }

    public void work(int steps) {
        for (int done = 0; done < steps; done++) {
            int class_ = classToMove();
            if (class_ == NONE) {
                return;
            }
            moveOneStep(class_);
        }
    }

    public void lose(int group) {
        int lost = group & GROUP_MASK;
        int first = lost * GROUP_CELLS;
        for (int cell = 0; cell < GROUP_CELLS; cell++) {
            memory[first + cell] = written[first + cell];
        }
        // Cells that came for a part still on its way here were in memory alone: they come again.
        for (int class_ = 0; class_ < CLASSES; class_++) {
            if (homeOf[class_] == lost) {
                copiedOf[class_] = 0;
            }
        }
    }

    private int request(int kind, int client, int number, int key, int operand) {
        if (client < 0 || client >= CLIENTS || isNoKey(key)) {
            return BAD;
        }
        int class_ = key & CLASS_MASK;
        if (load(class_, KNOWN + client) == 1) {
            int last = load(class_, NUMBER + client);
            if (last == number) {
                return load(class_, ANSWER + client);
            }
            if (last > number) {
                return OLD;
            }
        }
        int answer = carryOut(kind, key, operand);
        store(class_, KNOWN + client, 1);
        store(class_, NUMBER + client, number);
        store(class_, ANSWER + client, answer);
        return answer;
    }

    private int carryOut(int kind, int key, int operand) {
        int class_ = key & CLASS_MASK;
        int slot = key >> CLASS_BITS;
        int before = load(class_, VALUE + slot);
        int after = 0;
        if (kind == PUT) {
            after = operand;
        } else if (kind == ADD) {
            after = before + operand;
        }
        store(class_, THERE + slot, kind == REMOVE ? 0 : 1);
        store(class_, VALUE + slot, after);
        return kind == ADD ? after : before;
    }

    private static boolean isNoKey(int key) {
        return key < 0 || key >= KEYS;
    }

    private static int firstCell(int group, int class_) {
        return group * GROUP_CELLS + class_ * CELLS;
    }

    private int load(int class_, int cell) {
        return memory[firstCell(holderOf[class_], class_) + cell];
    }

    private void store(int class_, int cell, int value) {
        int at = firstCell(holderOf[class_], class_) + cell;
        written[at] = value;
        memory[at] = value;
        // The home has this cell already and would not be sent it again.
        if (cell < copiedOf[class_]) {
            int copy = firstCell(homeOf[class_], class_) + cell;
            memory[copy] = value;
        }
    }

    private int classToMove() {
        for (int class_ = 0; class_ < CLASSES; class_++) {
            if (holderOf[class_] != homeOf[class_]) {
                return class_;
            }
        }
        return NONE;
    }

    private void moveOneStep(int class_) {
        int cell = copiedOf[class_];
        if (cell >= CELLS) {
            takeOver(class_);
            return;
        }
        int copy = firstCell(homeOf[class_], class_) + cell;
        memory[copy] = load(class_, cell);
        copiedOf[class_] = cell + 1;
    }

    private void takeOver(int class_) {
        int first = firstCell(homeOf[class_], class_);
        for (int cell = 0; cell < CELLS; cell++) {
            written[first + cell] = memory[first + cell];
        }
        holderOf[class_] = homeOf[class_];
        copiedOf[class_] = 0;
    }
}
