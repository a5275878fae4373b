import java.util.List;

/**
 * The boundary cases of a new object and of the questions: promises 1 and 5 to 8. One method for each
 * sentence of the document, which stands above it.
 */
public final class QuestionBoundariesTest {
    private static final int MIN = Asked.MIN;
    private static final int MAX = Asked.MAX;

    public static void main(String[] args) {
        noKeyIsThere();
        noRequestHasBeenMade();
        getOfAKeyThatIsNotThere();
        getOutOfRange();
        getIsNoRequest();
        hasOfAKeyThatIsNotThere();
        hasOutOfRange();
        sizeFromNoneToAll();
        sizeOutsideOfRange();
        lastFromOfNone();
        lastFromLeastAsSmallAsCanBe();
        lastFromLeastAsLargeAsCanBe();
        lastFromJustAtTheValue();
        lastFromOfEachKey();
        questionsChangeNothing();
        Due.end();
    }

    /** "No key is there, ..." */
    private static void noKeyIsThere() {
        ShardedMap map = new ShardedMap();
        for (int key = 0; key < 32; key++) {
            Due.is("new: has " + key, map.has(key), false);
            Due.is("new: get " + key, map.get(key), 0);
        }
        for (int class_ = 0; class_ < 8; class_++) {
            Due.is("new: size " + class_, map.size(class_), 0);
        }
        for (int least : Asked.NUMBERS) {
            Due.is("new: lastFrom " + least, map.lastFrom(least), -1);
        }
    }

    /** "... no request has been made.": no number is remembered, not even the least or 0. */
    private static void noRequestHasBeenMade() {
        for (int number : Asked.NUMBERS) {
            ShardedMap map = new ShardedMap();
            for (int class_ = 0; class_ < 8; class_++) {
                for (int client = 0; client < 4; client++) {
                    String who = "client " + client + ", number " + number + ", class " + class_;
                    Due.is("new: " + who, map.addTo(client, number, class_, 5), 5 * (client + 1));
                }
            }
        }
    }

    /** "0 if it is not there ..." */
    private static void getOfAKeyThatIsNotThere() {
        for (int missing = 0; missing < 32; missing++) {
            ShardedMap map = allBut(missing);
            for (int key = 0; key < 32; key++) {
                Due.is("all but " + missing + ": get " + key, map.get(key), key == missing ? 0 : 100 + key);
            }
        }
    }

    /** "... or out of range." */
    private static void getOutOfRange() {
        for (ShardedMap map : new ShardedMap[] {new ShardedMap(), Asked.filled()}) {
            for (int key : Asked.NO_KEYS) {
                Due.is("get " + key, map.get(key), 0);
            }
        }
        Due.is("get of the least key", Asked.filled().get(0), 100);
        Due.is("get of the greatest key", Asked.filled().get(31), 131);
    }

    /** "(this is no request and is never remembered)" */
    private static void getIsNoRequest() {
        ShardedMap map = Asked.filled();
        for (int key = -1; key <= 32; key++) {
            map.get(key);
        }
        Due.same("after get", Asked.memories(map, Asked.LAST), Asked.memories(Asked.filled(), Asked.LAST));
    }

    /** "Whether the key is there." */
    private static void hasOfAKeyThatIsNotThere() {
        for (int missing = 0; missing < 32; missing++) {
            ShardedMap map = allBut(missing);
            for (int key = 0; key < 32; key++) {
                Due.is("all but " + missing + ": has " + key, map.has(key), key != missing);
            }
        }
    }

    /** Keys are the numbers 0 to 31: no other is there. */
    private static void hasOutOfRange() {
        for (ShardedMap map : new ShardedMap[] {new ShardedMap(), Asked.filled()}) {
            for (int key : Asked.NO_KEYS) {
                Due.is("has " + key, map.has(key), false);
            }
        }
        Due.is("has the least key", Asked.filled().has(0), true);
        Due.is("has the greatest key", Asked.filled().has(31), true);
    }

    /** "How many keys of the class ... are there.": none, some, all, and back again. */
    private static void sizeFromNoneToAll() {
        for (int class_ = 0; class_ < 8; class_++) {
            ShardedMap map = new ShardedMap();
            for (int slot = 0; slot < 4; slot++) {
                Due.is("class " + class_ + " growing", map.size(class_), slot);
                map.put(0, slot, class_ + 8 * slot, -slot);
                map.addTo(1, slot, class_ + 8 * slot, 0);
            }
            for (int other = 0; other < 8; other++) {
                Due.is("class " + class_ + " is full, size " + other, map.size(other), other == class_ ? 4 : 0);
            }
            for (int slot = 0; slot < 4; slot++) {
                Due.is("class " + class_ + " shrinking", map.size(class_), 4 - slot);
                map.remove(2, 2 * slot, class_ + 8 * slot);
                map.remove(2, 2 * slot + 1, class_ + 8 * slot);
            }
            Due.is("class " + class_ + " is empty again", map.size(class_), 0);
        }
    }

    /** "the class class_ & 7" */
    private static void sizeOutsideOfRange() {
        ShardedMap map = new ShardedMap();
        for (int key = 0; key < 32; key++) {
            // The classes 1 apart, and c and -c, have different sizes, so that a wrong class is seen.
            if ((key >> 3) < sizeGiven(key & 7)) {
                map.put(0, key, key, 1);
            }
        }
        for (int base : new int[] {MIN, -1024, -32, -16, -8, 0, 8, 16, 32, 1024, MAX - 7}) {
            for (int class_ = 0; class_ < 8; class_++) {
                Due.is("size " + (base + class_), map.size(base + class_), sizeGiven(class_));
            }
        }
    }

    private static int sizeGiven(int class_) {
        return class_ % 5;
    }

    /** "-1 if there is none." */
    private static void lastFromOfNone() {
        ShardedMap map = new ShardedMap();
        map.put(0, 1, 31, 5);
        map.put(0, 1, 0, 4);
        Due.is("none that large", map.lastFrom(6), -1);
        Due.is("none as large as an int can be", map.lastFrom(MAX), -1);
        map.remove(0, 2, 31);
        Due.is("the one has been removed", map.lastFrom(5), -1);
        map.remove(0, 2, 0);
        for (int least : Asked.NUMBERS) {
            Due.is("all have been removed, lastFrom " + least, map.lastFrom(least), -1);
        }
    }

    /** With the least int every key that is there will do, whatever its value. */
    private static void lastFromLeastAsSmallAsCanBe() {
        for (int value : Asked.NUMBERS) {
            ShardedMap map = new ShardedMap();
            map.put(0, 1, 0, MAX);
            map.put(0, 1, 29, value);
            Due.is("lastFrom MIN, value " + value, map.lastFrom(MIN), 29);
            map.remove(0, 2, 29);
            Due.is("lastFrom MIN, removed " + value, map.lastFrom(MIN), 0);
        }
    }

    /** With the greatest int only a key that has it will do. */
    private static void lastFromLeastAsLargeAsCanBe() {
        for (int value : Asked.NUMBERS) {
            ShardedMap map = new ShardedMap();
            map.put(0, 1, 3, value);
            Due.is("lastFrom MAX, value " + value, map.lastFrom(MAX), value == MAX ? 3 : -1);
        }
    }

    /** "with a value of at least least": the value itself, one less and one more. */
    private static void lastFromJustAtTheValue() {
        for (int value : Asked.NUMBERS) {
            ShardedMap map = new ShardedMap();
            map.put(0, 1, 14, value);
            for (int least : Asked.NUMBERS) {
                Due.is("value " + value + ", lastFrom " + least, map.lastFrom(least), value >= least ? 14 : -1);
            }
            if (value != MAX) {
                Due.is("value " + value + ", lastFrom one more", map.lastFrom(value + 1), -1);
            }
            if (value != MIN) {
                Due.is("value " + value + ", lastFrom one less", map.lastFrom(value - 1), 14);
            }
        }
    }

    /** "The greatest key that is there": from 0 to 31, and not the greatest value. */
    private static void lastFromOfEachKey() {
        ShardedMap map = new ShardedMap();
        for (int key = 0; key < 32; key++) {
            map.put(0, key, key, -key);
            Due.is("keys up to " + key, map.lastFrom(MIN), key);
            Due.is("keys up to " + key + ", value 0", map.lastFrom(0), 0);
            Due.is("keys up to " + key + ", half as low", map.lastFrom(-(key / 2)), key / 2);
        }
        for (int key = 31; key >= 0; key--) {
            Due.is("down to " + key, map.lastFrom(MIN), key);
            map.remove(1, 31 - key, key);
        }
        Due.is("down to none", map.lastFrom(MIN), -1);
    }

    /** A question changes neither what is there nor what is remembered. */
    private static void questionsChangeNothing() {
        ShardedMap map = Asked.filled();
        List<String> first = Asked.questions(map);
        Due.same("asked twice", Asked.questions(map), first);
        Due.same("requests after questions", Asked.memories(map, Asked.LAST), Asked.memories(Asked.filled(), Asked.LAST));
    }

    private static ShardedMap allBut(int missing) {
        ShardedMap map = Asked.filled();
        map.remove(0, 0, missing);
        return map;
    }
}
