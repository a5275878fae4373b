/**
 * "An object is used for at most 512 calls after it has been made": runs of exactly that length hold.
 * Mixed runs of this length are in AgainstModelTest.
 */
public final class RunLengthTest {
    private static final int CALLS = 512;
    private static final int MIN = Asked.MIN;
    private static final int MAX = Asked.MAX;

    public static void main(String[] args) {
        risingRequests();
        oneRequestAgainAndAgain();
        oldRequests();
        refusedRequests();
        putAndRemove();
        numbersToTheGreatest();
        everyKeyInTurn();
        questions();
        assigns();
        works();
        losses();
        allAtOnce();
        Due.end();
    }

    private static void risingRequests() {
        ShardedMap map = new ShardedMap();
        for (int call = 1; call <= CALLS; call++) {
            Due.is("rising, call " + call, map.addTo(2, MIN + call, 13, 3), 3 * call);
        }
    }

    private static void oneRequestAgainAndAgain() {
        ShardedMap map = new ShardedMap();
        for (int call = 1; call < CALLS; call++) {
            Due.is("again, call " + call, map.addTo(2, 0, 13, 3), 3);
        }
        Due.is("again, the last call", map.get(13), 3);
    }

    private static void oldRequests() {
        ShardedMap map = new ShardedMap();
        map.addTo(0, MAX, 20, 4);
        for (int call = 2; call < CALLS; call++) {
            Due.is("old, call " + call, map.addTo(0, MAX - call, 20, 4), -1);
        }
        Due.is("old, the last call", map.addTo(0, MAX, 20, 4), 4);
    }

    private static void refusedRequests() {
        ShardedMap map = new ShardedMap();
        for (int call = 1; call < CALLS; call++) {
            Due.is("refused, call " + call, map.put(call & 3, call, 31 + call, 1), -2);
        }
        Due.is("refused, the last call", map.lastFrom(MIN), -1);
    }

    private static void putAndRemove() {
        ShardedMap map = new ShardedMap();
        for (int call = 0; call < CALLS; call += 2) {
            Due.is("put, call " + call, map.put(0, call, 31, call + 1), 0);
            Due.is("remove, call " + (call + 1), map.remove(0, call + 1, 31), call + 1);
        }
    }

    private static void numbersToTheGreatest() {
        ShardedMap map = new ShardedMap();
        for (int call = 1; call <= CALLS; call++) {
            Due.is("to the greatest, call " + call, map.addTo(1, MAX - CALLS + call, 8, MIN), call % 2 == 1 ? MIN : 0);
        }
    }

    private static void everyKeyInTurn() {
        ShardedMap map = new ShardedMap();
        for (int call = 0; call < CALLS; call++) {
            int round = call / 32;
            Due.is("in turn, call " + call, map.addTo(round & 3, call, call % 32, call % 32 + 1), (round + 1) * (call % 32 + 1));
        }
    }

    private static void questions() {
        ShardedMap map = Asked.filled();
        for (int call = 32; call < CALLS; call += 5) {
            int key = call % 32;
            Due.is("get, call " + call, map.get(key), 100 + key);
            Due.is("has, call " + call, map.has(key), true);
            Due.is("size, call " + call, map.size(call), 4);
            Due.is("home, call " + call, map.home(call), call & 3);
            Due.is("lastFrom, call " + call, map.lastFrom(131), 31);
        }
    }

    private static void assigns() {
        ShardedMap map = new ShardedMap();
        int[] homes = {0, 1, 2, 3, 0, 1, 2, 3};
        for (int call = 0; call < CALLS; call++) {
            int class_ = call * 3 & 7;
            int group = call * call / 5 & 3;
            Due.is("assign, call " + call, map.assign(call * 3, call * call / 5), homes[class_]);
            homes[class_] = group;
        }
    }

    private static void works() {
        for (int steps : new int[] {MIN, -1, 0, 1, 5, MAX}) {
            ShardedMap map = new ShardedMap();
            map.put(0, 1, 2, 17);
            map.assign(2, 0);
            for (int call = 3; call < CALLS; call++) {
                map.work(steps);
            }
            Due.is("work " + steps + ", the last call", map.get(2), 17);
        }
    }

    private static void losses() {
        for (int group = 0; group < 4; group++) {
            ShardedMap map = new ShardedMap();
            map.put(0, 1, 2, 17);
            map.assign(2, 0);
            for (int call = 3; call < CALLS; call++) {
                map.lose(group);
            }
            Due.is("lose " + group + ", the last call", map.put(0, 2, 2, 18), 17);
        }
    }

    /** A request, a new home, some steps and a crash, again and again until the last call. */
    private static void allAtOnce() {
        for (int steps = 0; steps < 45; steps++) {
            ShardedMap map = new ShardedMap();
            for (int round = 0; round < CALLS / 4; round++) {
                int key = round % 3 == 0 ? 9 : 1;
                int want = key == 9 ? round / 3 + 1 : round - round / 3;
                Due.is("all, steps " + steps + ", round " + round, map.addTo(round & 3, round, key, 1), want);
                map.assign(1, round / 2);
                map.work(steps);
                map.lose(round / 3);
            }
        }
    }
}
