import java.util.HashMap;
import java.util.Map;
import java.util.Random;

/**
 * Runs with fixed seeds, each call also made on a plain map that knows no groups: whatever moves and
 * crashes come between, the answers must be the same.
 */
public final class AgainstModelTest {
    private static final int RUNS = 20000;
    // With the 96 calls at the end of a run, an object comes to its 512 calls and no more.
    private static final int CALLS = 512 - 96;
    private static final int[] EDGES = {
        Integer.MIN_VALUE, Integer.MIN_VALUE + 1, -33, -32, -2, -1, 0, 1, 31, 32, Integer.MAX_VALUE - 1, Integer.MAX_VALUE
    };

    private final Random random;
    private final ShardedMap map = new ShardedMap();
    private final Map<Integer, Integer> values = new HashMap<>();
    private final Map<Integer, int[]> remembered = new HashMap<>();
    private final int[] homes = {0, 1, 2, 3, 0, 1, 2, 3};
    private final int keysInUse;
    private final int moveShare;
    private final int mostSteps;
    private int clock = 0;

    private AgainstModelTest(int seed) {
        random = new Random(seed);
        keysInUse = 1 + random.nextInt(32);
        moveShare = random.nextInt(90);
        mostSteps = 1 + random.nextInt(60);
    }

    public static void main(String[] args) {
        for (int seed = 0; seed < RUNS && Due.allRight(); seed++) {
            AgainstModelTest run = new AgainstModelTest(seed);
            for (int call = 0; call < CALLS && Due.allRight(); call++) {
                run.oneCall("seed " + seed + ", call " + call + ": ");
            }
            run.isSame("seed " + seed + ", end: ");
        }
        Due.end();
    }

    private void oneCall(String when) {
        if (random.nextInt(100) < moveShare) {
            moveCall(when);
        } else if (random.nextInt(3) > 0) {
            requestCall(when);
        } else {
            questionCall(when);
        }
    }

    private void moveCall(String when) {
        int kind = random.nextInt(4);
        int any = edgeOr(random.nextInt(16));
        if (kind == 0) {
            int group = edgeOr(random.nextInt(8));
            int before = homes[any & 7];
            homes[any & 7] = group & 3;
            Due.is(when + "assign " + any + " " + group, map.assign(any, group), before);
        } else if (kind == 1) {
            map.lose(any);
        } else {
            map.work(edgeOr(random.nextInt(mostSteps)));
        }
    }

    private void requestCall(String when) {
        int client = random.nextInt(40) == 0 ? EDGES[random.nextInt(EDGES.length)] : random.nextInt(4);
        int key = edgeOr(random.nextInt(keysInUse));
        int number = edgeOr(clock++ - random.nextInt(4));
        int value = edgeOr(random.nextInt(20) - 10);
        int kind = random.nextInt(3);
        String call = when + "kind " + kind + ", " + client + " " + number + " " + key + " " + value;
        int want = request(kind, client, number, key, value);
        if (kind == 0) {
            Due.is(call, map.put(client, number, key, value), want);
        } else if (kind == 1) {
            Due.is(call, map.addTo(client, number, key, value), want);
        } else {
            Due.is(call, map.remove(client, number, key), want);
        }
    }

    private int request(int kind, int client, int number, int key, int value) {
        if (client < 0 || client > 3 || key < 0 || key > 31) {
            return -2;
        }
        int who = (key & 7) * 4 + client;
        int[] last = remembered.get(who);
        if (last != null && last[0] == number) {
            return last[1];
        }
        if (last != null && last[0] > number) {
            return -1;
        }
        int answer = values.getOrDefault(key, 0);
        if (kind == 0) {
            values.put(key, value);
        } else if (kind == 1) {
            answer += value;
            values.put(key, answer);
        } else {
            values.remove(key);
        }
        remembered.put(who, new int[] {number, answer});
        return answer;
    }

    private void questionCall(String when) {
        int any = edgeOr(random.nextInt(32));
        int kind = random.nextInt(5);
        if (kind == 0) {
            Due.is(when + "get " + any, map.get(any), values.getOrDefault(any, 0));
        } else if (kind == 1) {
            Due.is(when + "has " + any, map.has(any), values.containsKey(any));
        } else if (kind == 2) {
            Due.is(when + "size " + any, map.size(any), sizeOf(any & 7));
        } else if (kind == 3) {
            Due.is(when + "home " + any, map.home(any), homes[any & 7]);
        } else {
            int least = edgeOr(random.nextInt(40) - 20);
            Due.is(when + "lastFrom " + least, map.lastFrom(least), last(least));
        }
    }

    private void isSame(String when) {
        for (int key = 0; key < 32; key++) {
            Due.is(when + "get " + key, map.get(key), values.getOrDefault(key, 0));
            Due.is(when + "has " + key, map.has(key), values.containsKey(key));
        }
        for (int who = 0; who < 32; who++) {
            int[] last = remembered.get(who);
            int number = last == null ? Integer.MIN_VALUE : last[0];
            int want = request(2, who & 3, number, who >> 2, 0);
            Due.is(when + "remembered " + who, map.remove(who & 3, number, who >> 2), want);
        }
    }

    private int sizeOf(int class_) {
        int count = 0;
        for (int key : values.keySet()) {
            count += (key & 7) == class_ ? 1 : 0;
        }
        return count;
    }

    private int last(int least) {
        int last = -1;
        for (Map.Entry<Integer, Integer> entry : values.entrySet()) {
            if (entry.getValue() >= least && entry.getKey() > last) {
                last = entry.getKey();
            }
        }
        return last;
    }

    private int edgeOr(int usual) {
        return random.nextInt(60) == 0 ? EDGES[random.nextInt(EDGES.length)] : usual;
    }
}
