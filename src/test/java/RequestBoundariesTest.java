import java.util.List;

/**
 * The boundary cases of requests: 'Terms', REQUESTS and values, and promises 2 to 4. One method for
 * each sentence of the document, which stands above it.
 */
public final class RequestBoundariesTest {
    private static final int MIN = Asked.MIN;
    private static final int MAX = Asked.MAX;
    private static final int[] NUMBERS = Asked.NUMBERS;
    private static final String[] KINDS = Asked.KINDS;
    private static final int PUT = 0;
    private static final int ADD = 1;
    private static final int REMOVE = 2;

    public static void main(String[] args) {
        refusedAnswersBad();
        refusedChangesNothing();
        refusedRemembersNothing();
        refusedEvenIfTheNumberIsKnown();
        leastAndGreatestInRange();
        noneIsRemembered();
        equalNumber();
        equalNumberIsOfTheClassAndTheClient();
        greaterNumberIsRemembered();
        smallerNumberIsRemembered();
        inPlaceOfWhatWasRememberedForThisClient();
        valuesWrap();
        wrappedAnswersAreRemembered();
        answersLikeOldOrBad();
        keyThatWasNotThere();
        keyThatWasRemoved();
        keyThatIsThereWithZero();
        Due.end();
    }

    /** "A request with a client or a key out of range is refused: it answers BAD, ..." */
    private static void refusedAnswersBad() {
        for (int kind = 0; kind < KINDS.length; kind++) {
            ShardedMap map = new ShardedMap();
            for (int client : Asked.NO_CLIENTS) {
                isBad(map, kind, client, 0);
                isBad(map, kind, client, 31);
            }
            for (int key : Asked.NO_KEYS) {
                isBad(map, kind, 0, key);
                isBad(map, kind, 3, key);
            }
            isBad(map, kind, -1, -1);
            isBad(map, kind, 4, 32);
            isBad(map, kind, MIN, MAX);
        }
    }

    private static void isBad(ShardedMap map, int kind, int client, int key) {
        String call = KINDS[kind] + " of client " + client + ", key " + key;
        Due.is("refused: " + call, Asked.request(map, kind, client, 7, key, 9), -2);
    }

    /** "... nothing is changed ..." */
    private static void refusedChangesNothing() {
        for (int kind = 0; kind < KINDS.length; kind++) {
            for (ShardedMap map : new ShardedMap[] {new ShardedMap(), Asked.filled(), onItsWay()}) {
                List<String> before = Asked.questions(map);
                refuseAll(map, kind, 50);
                Due.same("after refused " + KINDS[kind], Asked.questions(map), before);
            }
        }
    }

    /** "... and nothing is remembered." */
    private static void refusedRemembersNothing() {
        for (int kind = 0; kind < KINDS.length; kind++) {
            for (int number : NUMBERS) {
                ShardedMap map = new ShardedMap();
                refuseAll(map, kind, number);
                String when = "after refused " + KINDS[kind] + " " + number;
                Due.same(when, Asked.memories(map, number), Asked.memories(new ShardedMap(), number));
            }
            ShardedMap map = Asked.filled();
            refuseAll(map, kind, 50);
            List<String> want = Asked.memories(Asked.filled(), Asked.LAST);
            Due.same("filled, after refused " + KINDS[kind], Asked.memories(map, Asked.LAST), want);
        }
    }

    /** The refusal comes before the look at what is remembered. */
    private static void refusedEvenIfTheNumberIsKnown() {
        for (int kind = 0; kind < KINDS.length; kind++) {
            ShardedMap map = new ShardedMap();
            Due.is("known: first", map.put(0, 5, 7, 70), 0);
            for (int number = 4; number <= 6; number++) {
                Due.is("known: key 39, number " + number, Asked.request(map, kind, 0, number, 39, 1), -2);
                Due.is("known: key -1, number " + number, Asked.request(map, kind, 0, number, -1, 1), -2);
                Due.is("known: client 4, number " + number, Asked.request(map, kind, 4, number, 7, 1), -2);
                Due.is("known: client -4, number " + number, Asked.request(map, kind, -4, number, 7, 1), -2);
            }
            Due.is("known: repeated", map.addTo(0, 5, 7, 1), 0);
            Due.is("known: value", map.get(7), 70);
        }
    }

    /** Clients 0 and 3 and keys 0 and 31 are the last ones that are not refused. */
    private static void leastAndGreatestInRange() {
        for (int client = 0; client < 4; client++) {
            for (int key : new int[] {0, 7, 8, 24, 31}) {
                ShardedMap map = new ShardedMap();
                String who = "client " + client + ", key " + key;
                Due.is("in range: put, " + who, map.put(client, 1, key, 30), 0);
                Due.is("in range: addTo, " + who, map.addTo(client, 2, key, 4), 34);
                Due.is("in range: remove, " + who, map.remove(client, 3, key), 34);
            }
        }
    }

    /** "at the start it remembers none": then any number is carried out. */
    private static void noneIsRemembered() {
        for (int number : NUMBERS) {
            for (int client = 0; client < 4; client++) {
                for (int key = 0; key < 32; key++) {
                    ShardedMap map = new ShardedMap();
                    String who = "client " + client + ", number " + number + ", key " + key;
                    Due.is("none: addTo, " + who, map.addTo(client, number, key, 6), 6);
                    Due.is("none: get, " + who, map.get(key), 6);
                    Due.is("none: again, " + who, map.addTo(client, number, key, 6), 6);
                }
            }
        }
    }

    /**
     * "if the class remembers for this client a number equal to the request's, nothing is changed and the
     * remembered answer is given again"
     */
    private static void equalNumber() {
        for (int number : NUMBERS) {
            for (int first = 0; first < KINDS.length; first++) {
                for (int again = 0; again < KINDS.length; again++) {
                    equalNumber(number, first, again);
                }
            }
        }
    }

    private static void equalNumber(int number, int first, int again) {
        ShardedMap map = new ShardedMap();
        String when = KINDS[first] + " " + number + ", again as " + KINDS[again];
        map.put(0, 0, 3, 40);
        map.put(0, 1, 27, 50);
        int want = first == ADD ? 42 : 40;
        Due.is(when + ": first", Asked.request(map, first, 2, number, 3, 2), want);
        // The answer is the one that was given, not the one that would be given now.
        map.put(0, 2, 3, 60);
        List<String> before = Asked.questions(map);
        for (int key : new int[] {3, 11, 27}) {
            Due.is(when + ": key " + key, Asked.request(map, again, 2, number, key, 9), want);
        }
        Due.same(when, Asked.questions(map), before);
        Due.is(when + ": once more", Asked.request(map, again, 2, number, 19, 9), want);
    }

    /** "Each class of keys remembers for each client": neither another class nor another client. */
    private static void equalNumberIsOfTheClassAndTheClient() {
        for (int number : NUMBERS) {
            ShardedMap map = new ShardedMap();
            for (int class_ = 0; class_ < 8; class_++) {
                for (int client = 0; client < 4; client++) {
                    String who = "client " + client + ", class " + class_ + ", number " + number;
                    int sum = 10 * class_ + 11 + client;
                    Due.is("own: " + who, map.addTo(client, number, class_, client == 0 ? 10 * class_ + 11 : 1), sum);
                }
            }
            for (int who = 0; who < 32; who++) {
                int want = 10 * (who >> 2) + 11 + (who & 3);
                Due.is("own: again " + who + ", number " + number, map.remove(who & 3, number, 24 + (who >> 2)), want);
            }
        }
    }

    /** "else if it remembers a greater number, nothing is changed and the answer is OLD" */
    private static void greaterNumberIsRemembered() {
        for (int high = 1; high < NUMBERS.length; high++) {
            for (int low = 0; low < high; low++) {
                greaterNumberIsRemembered(NUMBERS[low], NUMBERS[high]);
            }
        }
    }

    private static void greaterNumberIsRemembered(int number, int remembered) {
        ShardedMap map = new ShardedMap();
        String when = number + " after " + remembered;
        map.put(0, 0, 12, 40);
        Due.is(when + ": first", map.addTo(1, remembered, 4, 77), 77);
        List<String> before = Asked.questions(map);
        for (int kind = 0; kind < KINDS.length; kind++) {
            for (int key = 4; key < 32; key += 8) {
                Due.is(when + ": " + KINDS[kind] + " " + key, Asked.request(map, kind, 1, number, key, 9), -1);
            }
        }
        Due.same(when, Asked.questions(map), before);
        Due.is(when + ": what was remembered stays", map.remove(1, remembered, 4), 77);
    }

    /** "else the request is carried out, and its number and answer are remembered in place of what was remembered" */
    private static void smallerNumberIsRemembered() {
        for (int high = 1; high < NUMBERS.length; high++) {
            for (int low = 0; low < high; low++) {
                for (int kind = 0; kind < KINDS.length; kind++) {
                    smallerNumberIsRemembered(NUMBERS[high], NUMBERS[low], kind);
                }
            }
        }
    }

    private static void smallerNumberIsRemembered(int number, int remembered, int kind) {
        ShardedMap map = new ShardedMap();
        String when = KINDS[kind] + " " + number + " after " + remembered;
        Due.is(when + ": first", map.addTo(1, remembered, 30, 77), 77);
        int answer = kind == ADD ? 80 : 77;
        Due.is(when + ": carried out", Asked.request(map, kind, 1, number, 30, 3), answer);
        int value = kind == PUT ? 3 : kind == ADD ? 80 : 0;
        Due.is(when + ": get", map.get(30), value);
        Due.is(when + ": has", map.has(30), kind != REMOVE);
        Due.is(when + ": the number before is old", map.put(1, remembered, 30, 5), -1);
        Due.is(when + ": again", map.put(1, number, 30, 5), answer);
        Due.is(when + ": get again", map.get(30), value);
    }

    /** "... in place of what was remembered for this client": the others and the other classes keep theirs. */
    private static void inPlaceOfWhatWasRememberedForThisClient() {
        for (int changed = 0; changed < 32; changed++) {
            ShardedMap map = new ShardedMap();
            for (int who = 0; who < 32; who++) {
                map.addTo(who & 3, 0, who >> 2, 1);
            }
            Due.is("place: change " + changed, map.addTo(changed & 3, 1, changed >> 2, 10), 14);
            for (int who = 0; who < 32; who++) {
                boolean same = who == changed;
                String when = "place: after " + changed + ", of " + who;
                Due.is(when, map.put(who & 3, 0, who >> 2, 5), same ? -1 : (who & 3) + 1);
            }
            Due.is("place: again " + changed, map.put(changed & 3, 1, changed >> 2, 5), 14);
        }
    }

    /** "Values wrap as in Java." */
    private static void valuesWrap() {
        int[][] sums = {
            {MAX, 1, MIN}, {MIN, -1, MAX}, {MIN, MIN, 0}, {MAX, MAX, -2}, {MAX, MIN, -1}, {MIN, MAX, -1},
            {MAX, 2, MIN + 1}, {MIN, -2, MAX - 1}, {1, MAX, MIN}, {-1, MIN, MAX}, {0, MIN, MIN}, {0, MAX, MAX},
            {MAX, 0, MAX}, {MIN, 0, MIN}, {MAX - 1, 1, MAX}, {MIN + 1, -1, MIN}
        };
        for (int[] sum : sums) {
            ShardedMap map = new ShardedMap();
            String when = "wrap: " + sum[0] + " and " + sum[1];
            map.put(0, 1, 17, sum[0]);
            Due.is(when, map.addTo(0, 2, 17, sum[1]), sum[2]);
            Due.is(when + ", get", map.get(17), sum[2]);
            Due.is(when + ", has", map.has(17), true);
            Due.is(when + ", lastFrom its value", map.lastFrom(sum[2]), 17);
            Due.is(when + ", lastFrom above it", map.lastFrom(sum[2] + 1), sum[2] == MAX ? 17 : -1);
            Due.is(when + ", remove", map.remove(0, 3, 17), sum[2]);
        }
    }

    /** A repeated request adds nothing where the first one wrapped. */
    private static void wrappedAnswersAreRemembered() {
        ShardedMap map = new ShardedMap();
        map.put(0, MIN, 1, MAX);
        Due.is("wrapped: first", map.addTo(1, MIN, 1, MAX), -2);
        Due.is("wrapped: again", map.addTo(1, MIN, 1, MAX), -2);
        Due.is("wrapped: get", map.get(1), -2);
        Due.is("wrapped: back", map.addTo(1, MAX, 1, MIN), MAX - 1);
        Due.is("wrapped: back again", map.addTo(1, MAX, 1, MIN), MAX - 1);
        Due.is("wrapped: get at the end", map.get(1), MAX - 1);
    }

    /**
     * "Answers of requests are values, so that they may look like OLD or BAD; the remembered answer is
     * given again in any case."
     */
    private static void answersLikeOldOrBad() {
        for (int like : new int[] {ShardedMap.OLD, ShardedMap.BAD}) {
            for (int kind = 0; kind < KINDS.length; kind++) {
                answerLooksLike(like, kind);
            }
        }
    }

    private static void answerLooksLike(int like, int kind) {
        ShardedMap map = new ShardedMap();
        String when = KINDS[kind] + " that answers " + like;
        map.put(0, 1, 6, like);
        // addTo answers the new value and the others the old one: both look like it with nothing added.
        Due.is(when, Asked.request(map, kind, 2, 5, 6, 0), like);
        map.put(0, 2, 6, 300);
        Due.is(when + ": again", Asked.request(map, kind, 2, 5, 6, 0), like);
        Due.is(when + ": again as addTo", map.addTo(2, 5, 6, 1), like);
        Due.is(when + ": again as put", map.put(2, 5, 6, 1), like);
        Due.is(when + ": again as remove", map.remove(2, 5, 6), like);
        map.assign(6, 1);
        map.lose(1);
        map.lose(2);
        map.work(MAX);
        map.lose(1);
        Due.is(when + ": again after a move", map.addTo(2, 5, 6, 1), like);
        Due.is(when + ": nothing was changed", map.get(6), 300);
        Due.is(when + ": an old one", map.addTo(2, 4, 6, 1), -1);
        Due.is(when + ": the next is carried out", map.addTo(2, 6, 6, 1), 301);
        Due.is(when + ": then it is old", map.addTo(2, 5, 6, 1), -1);
    }

    /** Promises 2 to 4, a key that never was there: "or 0 if it was not there", "0 if the key was not there". */
    private static void keyThatWasNotThere() {
        for (int key = 0; key < 32; key++) {
            for (int operand : NUMBERS) {
                for (int kind = 0; kind < KINDS.length; kind++) {
                    notThereBefore("never there", new ShardedMap(), kind, key, operand);
                }
            }
        }
    }

    /** The same for a key that was there with some value and has been removed. */
    private static void keyThatWasRemoved() {
        for (int key = 0; key < 32; key++) {
            for (int operand : new int[] {MIN, -1, 0, 1, MAX}) {
                for (int kind = 0; kind < KINDS.length; kind++) {
                    ShardedMap map = new ShardedMap();
                    map.put(1, 1, key, 55);
                    Due.is("remove " + key, map.remove(1, 2, key), 55);
                    notThereBefore("removed", map, kind, key, operand);
                }
            }
        }
    }

    private static void notThereBefore(String why, ShardedMap map, int kind, int key, int operand) {
        String when = why + ": " + KINDS[kind] + " " + key + " " + operand;
        Due.is(when, Asked.request(map, kind, 0, 1, key, operand), kind == ADD ? operand : 0);
        Due.is(when + ", has", map.has(key), kind != REMOVE);
        Due.is(when + ", get", map.get(key), kind == REMOVE ? 0 : operand);
        Due.is(when + ", size", map.size(key & 7), kind == REMOVE ? 0 : 1);
        Due.is(when + ", lastFrom", map.lastFrom(MIN), kind == REMOVE ? -1 : key);
        // It counts as carried out, even where it had nothing to remove.
        for (int again = 0; again < KINDS.length; again++) {
            Due.is(when + ", again", Asked.request(map, again, 0, 1, key, 4), kind == ADD ? operand : 0);
        }
        Due.is(when + ", has after again", map.has(key), kind != REMOVE);
        Due.is(when + ", get after again", map.get(key), kind == REMOVE ? 0 : operand);
    }

    /** The value 0 is a value: only remove takes the key away. */
    private static void keyThatIsThereWithZero() {
        ShardedMap map = new ShardedMap();
        Due.is("zero: put", map.put(0, 1, 10, 0), 0);
        Due.is("zero: has after put", map.has(10), true);
        Due.is("zero: addTo", map.addTo(0, 2, 10, 0), 0);
        Due.is("zero: has after addTo", map.has(10), true);
        Due.is("zero: put again", map.put(0, 3, 10, 0), 0);
        Due.is("zero: size", map.size(2), 1);
        Due.is("zero: remove", map.remove(0, 4, 10), 0);
        Due.is("zero: has after remove", map.has(10), false);
        Due.is("zero: remove of none", map.remove(0, 5, 10), 0);
        Due.is("zero: size of none", map.size(2), 0);
        Due.is("zero: addTo to 0 by wrap", map.addTo(1, 1, 18, MIN), MIN);
        Due.is("zero: wrapped", map.addTo(1, 2, 18, MIN), 0);
        Due.is("zero: has after wrap", map.has(18), true);
    }

    private static void refuseAll(ShardedMap map, int kind, int number) {
        for (int client : Asked.NO_CLIENTS) {
            Asked.request(map, kind, client, number, 5, 9);
        }
        for (int key : Asked.NO_KEYS) {
            Asked.request(map, kind, 1, number, key, 9);
        }
    }

    /** Filled, with class 5 half moved. */
    private static ShardedMap onItsWay() {
        ShardedMap map = Asked.filled();
        map.assign(5, 0);
        map.work(10);
        return map;
    }
}
