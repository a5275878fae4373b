import java.lang.reflect.Field;
import java.util.Arrays;

/**
 * What no answer shows: that work() moves the parts in so many steps, and that lose() takes memory
 * away. It looks into private fields, and is to be changed with them.
 */
public final class InsideTest {
    private static final int CELLS = 20;
    private static final int GROUP_CELLS = 8 * CELLS;
    private static final int MOVE = CELLS + 1;

    public static void main(String[] args) throws ReflectiveOperationException {
        stepsAreCounted();
        everyClassMoves();
        nothingToDo();
        answersComeFromMemory();
        oldHolderIsNotNeeded();
        loseStartsFromWhatIsWritten();
        loseOutsideOfRange();
        loseOfTheHomeBeginsAnew();
        loseOfTheHolderGoesOn();
        assignElsewhereBeginsAnew();
        assignToTheSameHomeGoesOn();
        Due.end();
    }

    private static void stepsAreCounted() throws ReflectiveOperationException {
        for (int steps = 0; steps < 3 * MOVE; steps++) {
            ShardedMap map = new ShardedMap();
            map.assign(2, 3);
            map.assign(7, 1);
            map.work(steps);
            Due.is("holder of 2 after " + steps, array(map, "holderOf")[2], steps < MOVE ? 2 : 3);
            Due.is("holder of 7 after " + steps, array(map, "holderOf")[7], steps < 2 * MOVE ? 3 : 1);
            Due.is("copied of 2 after " + steps, array(map, "copiedOf")[2], steps < MOVE ? steps : 0);
        }
    }

    private static void everyClassMoves() throws ReflectiveOperationException {
        for (int steps = 0; steps <= 8 * MOVE + 1; steps++) {
            ShardedMap map = new ShardedMap();
            for (int class_ = 0; class_ < 8; class_++) {
                map.assign(class_, class_ + 1);
            }
            map.work(steps);
            for (int class_ = 0; class_ < 8; class_++) {
                int want = steps < (class_ + 1) * MOVE ? class_ & 3 : (class_ + 1) & 3;
                Due.is("all move: holder of " + class_ + " after " + steps, array(map, "holderOf")[class_], want);
            }
        }
    }

    private static void nothingToDo() throws ReflectiveOperationException {
        ShardedMap map = new ShardedMap();
        map.put(0, 1, 1, 1);
        int[] before = array(map, "memory").clone();
        map.work(1000);
        Due.is("memory is as before", Arrays.equals(before, array(map, "memory")), true);
        map.assign(1, 2);
        map.work(0);
        map.work(-1);
        map.work(Integer.MIN_VALUE);
        Due.is("no steps", array(map, "copiedOf")[1], 0);
    }

    private static void answersComeFromMemory() throws ReflectiveOperationException {
        ShardedMap map = new ShardedMap();
        map.put(0, 1, 1, 11);
        spoil(array(map, "written"), 1);
        Due.is("get with spoilt writing", map.get(1), 11);
        Due.is("put again with spoilt writing", map.put(0, 1, 1, 12), 0);
    }

    private static void oldHolderIsNotNeeded() throws ReflectiveOperationException {
        ShardedMap map = new ShardedMap();
        map.put(0, 1, 1, 11);
        map.assign(1, 2);
        map.work(MOVE);
        spoil(array(map, "memory"), 1);
        spoil(array(map, "written"), 1);
        Due.is("get", map.get(1), 11);
        map.lose(2);
        Due.is("get after lose", map.get(1), 11);
        Due.is("put again", map.put(0, 1, 1, 12), 0);
    }

    private static void loseStartsFromWhatIsWritten() throws ReflectiveOperationException {
        for (int group = 0; group < 4; group++) {
            ShardedMap map = new ShardedMap();
            for (int key = 0; key < 32; key++) {
                map.put(0, key, key, key + 1);
            }
            spoil(array(map, "memory"), group);
            map.lose(group);
            for (int key = 0; key < 32; key++) {
                Due.is("group " + group + " get " + key, map.get(key), key + 1);
            }
        }
    }

    /** "the group group & 3": that group and no other. */
    private static void loseOutsideOfRange() throws ReflectiveOperationException {
        for (int base : new int[] {Integer.MIN_VALUE, -1024, -8, -4, 0, 4, 8, 1024, Integer.MAX_VALUE - 3}) {
            for (int group = 0; group < 4; group++) {
                ShardedMap map = new ShardedMap();
                for (int other = 0; other < 4; other++) {
                    spoil(array(map, "memory"), other);
                }
                map.lose(base + group);
                for (int other = 0; other < 4; other++) {
                    int want = other == group ? 0 : -999;
                    String when = "lose " + (base + group) + ", group " + other;
                    for (int cell = 0; cell < GROUP_CELLS; cell++) {
                        Due.is(when + ", cell " + cell, array(map, "memory")[other * GROUP_CELLS + cell], want);
                    }
                }
            }
        }
    }

    private static void loseOfTheHomeBeginsAnew() throws ReflectiveOperationException {
        ShardedMap map = moving();
        map.lose(2);
        Due.is("home lost: copied", array(map, "copiedOf")[1], 0);
        map.work(MOVE - 1);
        Due.is("home lost: holder", array(map, "holderOf")[1], 1);
        map.work(1);
        Due.is("home lost: holder at the end", array(map, "holderOf")[1], 2);
        Due.is("home lost: get", map.get(1), 11);
    }

    private static void loseOfTheHolderGoesOn() throws ReflectiveOperationException {
        ShardedMap map = moving();
        map.lose(1);
        Due.is("holder lost: copied", array(map, "copiedOf")[1], CELLS);
        map.work(1);
        Due.is("holder lost: holder", array(map, "holderOf")[1], 2);
        Due.is("holder lost: get", map.get(1), 11);
    }

    private static void assignElsewhereBeginsAnew() throws ReflectiveOperationException {
        ShardedMap map = moving();
        map.assign(1, 3);
        Due.is("elsewhere: copied", array(map, "copiedOf")[1], 0);
        map.assign(1, 1);
        map.work(100);
        Due.is("back: copied", array(map, "copiedOf")[1], 0);
        Due.is("back: get", map.get(1), 11);
    }

    private static void assignToTheSameHomeGoesOn() throws ReflectiveOperationException {
        for (int group : new int[] {2, 6, -2, Integer.MIN_VALUE + 2}) {
            ShardedMap map = moving();
            map.assign(1, group);
            Due.is("the same home as " + group + ": copied", array(map, "copiedOf")[1], CELLS);
        }
    }

    /** Class 1 on its way from group 1 to group 2, with all cells copied and not yet taken over. */
    private static ShardedMap moving() {
        ShardedMap map = new ShardedMap();
        map.put(0, 1, 1, 11);
        map.assign(1, 2);
        map.work(MOVE - 1);
        return map;
    }

    private static void spoil(int[] cells, int group) {
        Arrays.fill(cells, group * GROUP_CELLS, (group + 1) * GROUP_CELLS, -999);
    }

    private static int[] array(ShardedMap map, String name) throws ReflectiveOperationException {
        Field field = ShardedMap.class.getDeclaredField(name);
        field.setAccessible(true);
        return (int[]) field.get(map);
    }
}
