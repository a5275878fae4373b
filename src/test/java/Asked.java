import java.util.ArrayList;
import java.util.List;

/** All that an object can be asked, each call with its answer in a row, so that states can be compared. */
final class Asked {
    static final int MIN = Integer.MIN_VALUE;
    static final int MAX = Integer.MAX_VALUE;
    /** Ints in rising order, with the ends of the range and the steps between signs. */
    static final int[] NUMBERS = {MIN, MIN + 1, -1000, -2, -1, 0, 1, 2, 1000, MAX - 1, MAX};
    static final int[] NO_KEYS = {MIN, MIN + 5, -33, -32, -8, -1, 32, 33, 40, 63, 64, MAX - 2, MAX};
    static final int[] NO_CLIENTS = {MIN, MIN + 1, -5, -4, -1, 4, 5, 7, 8, MAX - 3, MAX};
    /** The number that a filled object remembers, in each class, for client 3. */
    static final int LAST = 24;
    static final String[] KINDS = {"put", "addTo", "remove"};

    private Asked() {
    }

    /** 92 calls, of which none changes anything. */
    static List<String> questions(ShardedMap map) {
        List<String> rows = new ArrayList<>();
        for (int key = -1; key <= 32; key++) {
            rows.add("get(" + key + ") = " + map.get(key));
            rows.add("has(" + key + ") = " + map.has(key));
        }
        for (int class_ = 0; class_ < 8; class_++) {
            rows.add("size(" + class_ + ") = " + map.size(class_));
            rows.add("home(" + class_ + ") = " + map.home(class_));
        }
        for (int least : new int[] {MIN, -1, 0, 1, 2, 100, 110, MAX}) {
            rows.add("lastFrom(" + least + ") = " + map.lastFrom(least));
        }
        return rows;
    }

    /**
     * 96 requests that tell what is remembered, where the numbers remembered are number or none: the
     * least number is carried out only where none is, and number itself only where it isn't remembered.
     */
    static List<String> memories(ShardedMap map, int number) {
        List<String> rows = new ArrayList<>();
        for (int class_ = 0; class_ < 8; class_++) {
            for (int client = 0; client < 4; client++) {
                for (int asked : new int[] {MIN, number, MAX}) {
                    String call = "addTo(" + client + ", " + asked + ", " + class_ + ", 1000) = ";
                    rows.add(call + map.addTo(client, asked, class_, 1000));
                }
            }
        }
        return rows;
    }

    /** A request of one of the KINDS. */
    static int request(ShardedMap map, int kind, int client, int number, int key, int operand) {
        if (kind == 0) {
            return map.put(client, number, key, operand);
        }
        if (kind == 1) {
            return map.addTo(client, number, key, operand);
        }
        return map.remove(client, number, key);
    }

    /** 32 calls: every key gets 100 + key from client 3; in each class the last has the number LAST. */
    static ShardedMap filled() {
        ShardedMap map = new ShardedMap();
        for (int key = 0; key < 32; key++) {
            map.addTo(3, LAST - 3 + (key >> 3), key, 100 + key);
        }
        return map;
    }
}
