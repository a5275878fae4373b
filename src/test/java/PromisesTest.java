/** Each promise of the document: ordinary inputs, the edges that it names, wrong inputs. */
public final class PromisesTest {
    private static final int MIN = Integer.MIN_VALUE;
    private static final int MAX = Integer.MAX_VALUE;
    private static final int[] NO_KEYS = {-1, -8, -32, 32, 33, 40, 64, MIN, MAX};
    private static final int[] NO_CLIENTS = {-1, -4, 4, 5, 8, MIN, MAX};

    public static void main(String[] args) {
        constants();
        newObject();
        put();
        addTo();
        remove();
        get();
        has();
        size();
        lastFrom();
        assign();
        home();
        work();
        lose();
        repeatedAndOldRequests();
        refusedRequests();
        answersThatLookLikeOldOrBad();
        objectsAreApart();
        Due.end();
    }

    private static void constants() {
        Due.is("OLD", ShardedMap.OLD, -1);
        Due.is("BAD", ShardedMap.BAD, -2);
    }

    private static void newObject() {
        ShardedMap map = new ShardedMap();
        for (int key = -3; key < 36; key++) {
            Due.is("P1 has " + key, map.has(key), false);
            Due.is("P1 get " + key, map.get(key), 0);
        }
        for (int class_ = 0; class_ < 8; class_++) {
            Due.is("P1 size " + class_, map.size(class_), 0);
            Due.is("P1 home " + class_, map.home(class_), class_ & 3);
        }
        Due.is("P1 lastFrom", map.lastFrom(MIN), -1);
        for (int class_ = 0; class_ < 8; class_++) {
            for (int client = 0; client < 4; client++) {
                Due.is("P1 nothing is remembered", map.addTo(client, MIN, class_, 1), client + 1);
            }
        }
    }

    private static void put() {
        ShardedMap map = new ShardedMap();
        for (int key = 0; key < 32; key++) {
            Due.is("P2 first put " + key, map.put(key & 3, key, key, key * 10 - 50), 0);
        }
        for (int key = 0; key < 32; key++) {
            Due.is("P2 get " + key, map.get(key), key * 10 - 50);
            Due.is("P2 has " + key, map.has(key), true);
            Due.is("P2 second put " + key, map.put(key & 3, 100 + key, key, key), key * 10 - 50);
            Due.is("P2 get again " + key, map.get(key), key);
        }
        Due.is("P2 put 0", map.put(0, 1000, 9, 0), 9);
        Due.is("P2 a key with 0 is there", map.has(9), true);
        Due.is("P2 put MIN", map.put(0, 1001, 9, MIN), 0);
        Due.is("P2 put MAX", map.put(0, 1002, 9, MAX), MIN);
        Due.is("P2 get MAX", map.get(9), MAX);
    }

    private static void addTo() {
        ShardedMap map = new ShardedMap();
        Due.is("P3 to none", map.addTo(0, 1, 31, -7), -7);
        Due.is("P3 is there", map.has(31), true);
        Due.is("P3 to some", map.addTo(0, 2, 31, 10), 3);
        Due.is("P3 get", map.get(31), 3);
        Due.is("P3 zero to none", map.addTo(0, 3, 23, 0), 0);
        Due.is("P3 is there with 0", map.has(23), true);
        Due.is("P3 MAX", map.addTo(1, 1, 23, MAX), MAX);
        Due.is("P3 wraps up", map.addTo(1, 2, 23, 1), MIN);
        Due.is("P3 wraps down", map.addTo(1, 3, 23, -1), MAX);
        Due.is("P3 MIN and MIN", map.addTo(2, 1, 7, MIN), MIN);
        Due.is("P3 wrap to 0", map.addTo(2, 2, 7, MIN), 0);
        Due.is("P3 put before", map.put(3, 1, 7, 5), 0);
        Due.is("P3 remove before", map.remove(3, 2, 7), 5);
        Due.is("P3 removed counts as 0", map.addTo(3, 3, 7, 2), 2);
    }

    private static void remove() {
        ShardedMap map = new ShardedMap();
        Due.is("P4 none", map.remove(0, 1, 4), 0);
        Due.is("P4 was remembered", map.put(0, 1, 4, 9), 0);
        Due.is("P4 the repeat changed nothing", map.has(4), false);
        map.put(0, 2, 4, 9);
        map.put(0, 3, 12, 11);
        Due.is("P4 some", map.remove(1, 1, 4), 9);
        Due.is("P4 gone", map.has(4), false);
        Due.is("P4 get", map.get(4), 0);
        Due.is("P4 size", map.size(4), 1);
        Due.is("P4 other stays", map.get(12), 11);
        Due.is("P4 twice", map.remove(1, 2, 4), 0);
        Due.is("P4 put after", map.put(1, 3, 4, 6), 0);
        Due.is("P4 back", map.get(4), 6);
    }

    private static void get() {
        ShardedMap map = new ShardedMap();
        fill(map);
        for (int key : NO_KEYS) {
            Due.is("P5 get " + key, map.get(key), 0);
        }
        Due.is("P5 get 0", map.get(0), 100);
        Due.is("P5 get 31", map.get(31), 131);
        Due.is("P5 get is no request", map.addTo(0, 1, 31, 1), 132);
        Due.is("P5 get remembers nothing", map.addTo(0, 1, 31, 1), 132);
    }

    private static void has() {
        ShardedMap map = new ShardedMap();
        fill(map);
        for (int key : NO_KEYS) {
            Due.is("P6 has " + key, map.has(key), false);
        }
        map.remove(0, 1, 0);
        Due.is("P6 has 0", map.has(0), false);
        Due.is("P6 has 8", map.has(8), true);
        Due.is("P6 has 31", map.has(31), true);
    }

    private static void size() {
        ShardedMap map = new ShardedMap();
        map.put(0, 1, 3, 0);
        map.put(0, 2, 11, -1);
        map.put(0, 3, 19, MIN);
        Due.is("P7 size 3", map.size(3), 3);
        Due.is("P7 size 2", map.size(2), 0);
        Due.is("P7 size 4", map.size(4), 0);
        map.put(0, 4, 27, 1);
        map.put(0, 5, 27, 2);
        Due.is("P7 a whole class", map.size(3), 4);
        Due.is("P7 size 11", map.size(11), 4);
        Due.is("P7 size -5", map.size(-5), 4);
        Due.is("P7 size MIN + 3", map.size(MIN + 3), 4);
        Due.is("P7 size MAX", map.size(MAX), 0);
        map.remove(0, 6, 11);
        Due.is("P7 after remove", map.size(3), 3);
    }

    private static void lastFrom() {
        ShardedMap map = new ShardedMap();
        map.put(0, 1, 0, 50);
        Due.is("P8 key 0", map.lastFrom(50), 0);
        Due.is("P8 above", map.lastFrom(51), -1);
        map.put(0, 1, 10, 40);
        map.put(0, 1, 31, -40);
        Due.is("P8 at least", map.lastFrom(40), 10);
        Due.is("P8 greatest key, not value", map.lastFrom(-40), 31);
        Due.is("P8 just above", map.lastFrom(-39), 10);
        Due.is("P8 MIN", map.lastFrom(MIN), 31);
        Due.is("P8 MAX", map.lastFrom(MAX), -1);
        map.remove(0, 2, 31);
        Due.is("P8 a removed key", map.lastFrom(MIN), 10);
        map.put(0, 2, 10, MIN);
        Due.is("P8 a value MIN", map.lastFrom(MIN), 10);
        map.remove(0, 3, 10);
        Due.is("P8 a missing key is no 0", map.lastFrom(0), 0);
        map.put(0, 2, 0, MAX);
        Due.is("P8 a value MAX", map.lastFrom(MAX), 0);
    }

    private static void assign() {
        ShardedMap map = new ShardedMap();
        Due.is("P9 first", map.assign(6, 0), 2);
        Due.is("P9 again the same", map.assign(6, 0), 0);
        Due.is("P9 next", map.assign(6, 3), 0);
        Due.is("P9 masks", map.assign(14, 5), 3);
        Due.is("P9 negative", map.assign(-2, -2), 1);
        Due.is("P9 extremes", map.assign(MAX, MIN), 3);
        Due.is("P9 home 6", map.home(6), 2);
        Due.is("P9 home 7", map.home(7), 0);
        Due.is("P9 home 5 as it was", map.home(5), 1);
    }

    private static void home() {
        ShardedMap map = new ShardedMap();
        map.assign(0, 3);
        Due.is("P10 at once, before any work", map.home(0), 3);
        map.work(1000);
        Due.is("P10 after work", map.home(0), 3);
        map.lose(3);
        map.lose(0);
        Due.is("P10 after lose", map.home(0), 3);
        Due.is("P10 home 8", map.home(8), 3);
        Due.is("P10 home -8", map.home(-8), 3);
        Due.is("P10 home MIN", map.home(MIN), 3);
        Due.is("P10 home MAX", map.home(MAX), 3);
        Due.is("P10 home 1", map.home(1), 1);
        Due.is("P10 home -2", map.home(-2), 2);
    }

    private static void work() {
        int[] counts = {MIN, -1, 0, 1, 2, 19, 20, 21, 22, 167, 168, 169, MAX};
        for (int steps : counts) {
            ShardedMap map = new ShardedMap();
            fill(map);
            map.work(steps);
            isFilled("P11 nothing to do, work " + steps, map);
            for (int class_ = 0; class_ < 8; class_++) {
                map.assign(class_, class_ + 1);
            }
            map.work(steps);
            isFilled("P11 all to move, work " + steps, map);
            isRemembered("P11 all to move, work " + steps, map);
        }
        writesBetweenSteps();
    }

    private static void writesBetweenSteps() {
        for (int steps = 0; steps < 23; steps++) {
            ShardedMap map = new ShardedMap();
            fill(map);
            map.assign(5, 2);
            map.work(steps);
            Due.is("P11 put after steps " + steps, map.put(0, 1, 5, 7), 105);
            Due.is("P11 remove after steps " + steps, map.remove(1, 1, 13), 113);
            Due.is("P11 addTo after steps " + steps, map.addTo(2, 1, 29, 1), 130);
            map.work(1000);
            Due.is("P11 get 5", map.get(5), 7);
            Due.is("P11 has 13", map.has(13), false);
            Due.is("P11 get 29", map.get(29), 130);
            Due.is("P11 put again", map.put(0, 1, 5, 8), 105);
            Due.is("P11 remove again", map.remove(1, 1, 13), 113);
            Due.is("P11 addTo again", map.addTo(2, 1, 29, 1), 130);
            Due.is("P11 old", map.addTo(2, 0, 29, 1), -1);
        }
    }

    private static void lose() {
        int[] groups = {0, 1, 2, 3, 4, 7, -1, -4, MIN, MAX};
        for (int group : groups) {
            for (int steps = 0; steps < 45; steps++) {
                ShardedMap map = new ShardedMap();
                fill(map);
                map.assign(0, 1);
                map.assign(4, 3);
                map.work(steps);
                map.lose(group);
                isFilled("P12 lose " + group + " after " + steps, map);
                map.work(5);
                map.lose(group + 1);
                map.assign(0, 2);
                map.work(1000);
                map.lose(group + 2);
                isFilled("P12 moved on, lose " + group + " after " + steps, map);
                isRemembered("P12 moved on, lose " + group + " after " + steps, map);
            }
        }
        allLoseAtOnce();
    }

    private static void allLoseAtOnce() {
        ShardedMap map = new ShardedMap();
        fill(map);
        for (int group = 0; group < 4; group++) {
            map.lose(group);
        }
        isFilled("P12 all lose", map);
        isRemembered("P12 all lose", map);
    }

    private static void repeatedAndOldRequests() {
        ShardedMap map = new ShardedMap();
        Due.is("R first", map.addTo(0, 5, 2, 1), 1);
        Due.is("R again", map.addTo(0, 5, 2, 1), 1);
        Due.is("R again as put", map.put(0, 5, 2, 77), 1);
        Due.is("R again as remove of another key", map.remove(0, 5, 10), 1);
        Due.is("R old", map.addTo(0, 4, 2, 1), -1);
        Due.is("R old MIN", map.put(0, MIN, 2, 1), -1);
        Due.is("R old remove", map.remove(0, 0, 2), -1);
        Due.is("R nothing was changed", map.get(2), 1);
        Due.is("R old did not take the place", map.addTo(0, 5, 2, 1), 1);
        Due.is("R a gap", map.addTo(0, 100, 2, 1), 2);
        Due.is("R the one before is old now", map.addTo(0, 5, 2, 1), -1);
        Due.is("R another client", map.addTo(1, 5, 2, 1), 3);
        Due.is("R another class", map.addTo(0, 5, 3, 1), 1);
        Due.is("R the same class", map.addTo(0, 5, 26, 1), -1);
        Due.is("R negative", map.addTo(2, -10, 2, 1), 4);
        Due.is("R less than negative", map.addTo(2, -11, 2, 1), -1);
        Due.is("R far apart", map.addTo(2, MAX, 2, 1), 5);
        Due.is("R far apart, old", map.addTo(2, MIN, 2, 1), -1);
        Due.is("R MIN is remembered", map.addTo(3, MIN, 2, 1), 6);
        Due.is("R MIN again", map.addTo(3, MIN, 2, 1), 6);
        Due.is("R MIN, then MAX", map.addTo(3, MAX, 2, 1), 7);
        Due.is("R number 0 on a new class", map.addTo(0, 0, 7, 9), 9);
        Due.is("R number 0 again", map.addTo(0, 0, 7, 9), 9);
    }

    private static void refusedRequests() {
        ShardedMap map = new ShardedMap();
        fill(map);
        for (int client : NO_CLIENTS) {
            isRefused(map, client, 5);
        }
        for (int key : NO_KEYS) {
            isRefused(map, 0, key);
        }
        isRefused(map, 4, 32);
        isFilled("B nothing is changed", map);
        isRemembered("B nothing is remembered", map);
    }

    private static void isRefused(ShardedMap map, int client, int key) {
        String who = " of client " + client + ", key " + key;
        Due.is("B put" + who, map.put(client, 1, key, 1), -2);
        Due.is("B addTo" + who, map.addTo(client, 1, key, 1), -2);
        Due.is("B remove" + who, map.remove(client, 1, key), -2);
    }

    private static void answersThatLookLikeOldOrBad() {
        ShardedMap map = new ShardedMap();
        Due.is("L -1", map.addTo(0, 1, 6, -1), -1);
        Due.is("L -1 again", map.addTo(0, 1, 6, -1), -1);
        Due.is("L -2", map.addTo(1, 1, 6, -1), -2);
        Due.is("L -2 again", map.put(1, 1, 6, 5), -2);
        Due.is("L carried out once", map.get(6), -2);
        Due.is("L put answers -2", map.put(2, 1, 6, -1), -2);
        Due.is("L remove answers -1", map.remove(3, 1, 6), -1);
        Due.is("L remove again", map.remove(3, 1, 6), -1);
        Due.is("L next", map.addTo(3, 2, 6, 4), 4);
    }

    private static void objectsAreApart() {
        ShardedMap one = new ShardedMap();
        ShardedMap other = new ShardedMap();
        fill(one);
        one.assign(3, 0);
        Due.is("O has", other.has(3), false);
        Due.is("O home", other.home(3), 3);
        Due.is("O request", other.addTo(3, 0, 3, 1), 1);
        isFilled("O one", one);
    }

    /** Every key gets 100 + key, from client 3, with numbers that rise in each class. */
    private static void fill(ShardedMap map) {
        for (int key = 0; key < 32; key++) {
            map.addTo(3, key, key, 100 + key);
        }
    }

    private static void isFilled(String when, ShardedMap map) {
        for (int key = 0; key < 32; key++) {
            Due.is(when + ": get " + key, map.get(key), 100 + key);
            Due.is(when + ": has " + key, map.has(key), true);
        }
        for (int class_ = 0; class_ < 8; class_++) {
            Due.is(when + ": size " + class_, map.size(class_), 4);
        }
        Due.is(when + ": lastFrom", map.lastFrom(0), 31);
    }

    /** What fill() left remembered: client 3 alone, with the last key of each class. */
    private static void isRemembered(String when, ShardedMap map) {
        for (int class_ = 0; class_ < 8; class_++) {
            int last = 24 + class_;
            Due.is(when + ": repeated " + class_, map.remove(3, last, class_), 100 + last);
            Due.is(when + ": old " + class_, map.remove(3, last - 1, class_), -1);
            for (int client = 0; client < 3; client++) {
                Due.is(when + ": new " + class_, map.addTo(client, MIN, class_, 0), 100 + class_);
            }
        }
    }
}
