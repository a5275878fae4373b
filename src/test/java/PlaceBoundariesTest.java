import java.util.ArrayList;
import java.util.List;
import java.util.function.Consumer;

/**
 * The boundary cases of places: 'Terms', PLACES, and promises 9 to 12. One method for each sentence of
 * the document, which stands above it.
 */
public final class PlaceBoundariesTest {
    private static final int MIN = Asked.MIN;
    private static final int MAX = Asked.MAX;
    private static final int[] CLASS_BASES = {MIN, -1024, -16, -8, 0, 8, 16, 1024, MAX - 7};
    private static final int[] GROUP_BASES = {MIN, -1024, -8, -4, 0, 4, 8, 1024, MAX - 3};
    private static final int[] STEPS = {MIN, MIN + 1, -1000, -1, 0, 1, 2, 19, 20, 21, 22, 167, 168, 169, 1000, MAX - 1, MAX};
    private static final int STATES = 9;
    private static final int SCRIPT = 24;

    public static void main(String[] args) {
        homesAtTheStart();
        noAnswerDependsOnPlaces();
        assignWithAnyArguments();
        assignTheHomeThatItHas();
        assignBackAndForth();
        assignElsewhereOnTheWay();
        homeWithAnyArgument();
        homeIsTheLastAssigned();
        workChangesNoAnswer();
        workWithNothingToDo();
        workInManySmallCalls();
        loseChangesNoAnswer();
        loseMeansGroupAndThree();
        loseOfAllGroupsInEachOrder();
        Due.end();
    }

    /** "at the start class c has the home c & 3" */
    private static void homesAtTheStart() {
        ShardedMap map = new ShardedMap();
        for (int class_ = 0; class_ < 8; class_++) {
            Due.is("start: home " + class_, map.home(class_), class_ & 3);
        }
        for (int class_ = 0; class_ < 8; class_++) {
            Due.is("start: assign " + class_, map.assign(class_, 3 - class_), class_ & 3);
        }
    }

    /** "no answer of any other call but home() depends on them, whatever happens when." */
    private static void noAnswerDependsOnPlaces() {
        List<String> want = script(map -> { }, 0, map -> { }, 0);
        for (int first = 0; first < SCRIPT; first++) {
            for (int second = first; second < SCRIPT; second += 1 + (second - first) / 2) {
                for (int steps = 0; steps < 23; steps++) {
                    for (int lost = 0; lost < 4; lost++) {
                        int many = steps;
                        int group = lost;
                        String when = "assign at " + first + ", work " + steps + ", lose " + lost + " at " + second;
                        Due.same(when, script(map -> begin(map, many), first, map -> crash(map, group), second), want);
                    }
                }
            }
        }
    }

    private static void begin(ShardedMap map, int steps) {
        map.assign(5, 2);
        map.work(steps);
    }

    private static void crash(ShardedMap map, int group) {
        map.lose(group);
        map.work(7);
        map.lose(group + 1);
        map.work(30);
        map.lose(group);
    }

    /** A fixed run of requests and questions about class 5, with two things that happen before two of its calls. */
    private static List<String> script(Consumer<ShardedMap> one, int first, Consumer<ShardedMap> two, int second) {
        List<String> rows = new ArrayList<>();
        ShardedMap map = new ShardedMap();
        for (int call = 0; call < SCRIPT; call++) {
            if (call == first) {
                one.accept(map);
            }
            if (call == second) {
                two.accept(map);
            }
            rows.add("call " + call + " = " + scriptCall(map, call));
        }
        for (int key = 5; key < 32; key += 8) {
            rows.add("get " + key + " = " + map.get(key) + ", has = " + map.has(key));
        }
        // Rising numbers: the answer is OLD, then the remembered one, then that of a new request.
        for (int number = 0; number < SCRIPT; number++) {
            for (int client = 0; client < 4; client++) {
                rows.add("number " + number + " of " + client + " = " + map.addTo(client, number, 5, 1));
            }
        }
        return rows;
    }

    private static int scriptCall(ShardedMap map, int call) {
        int key = 5 + 8 * (call * 7 % 4);
        switch (call % 6) {
            case 0: return map.put(call & 3, call, key, 50 + call);
            case 1: return map.addTo(call & 3, call, key, -call);
            case 2: return map.addTo(call & 3, call - call % 2, key, 1000);
            case 3: return map.size(5) * 1000 + map.get(key);
            case 4: return map.remove(call & 3, call, key);
            default: return map.lastFrom(40);
        }
    }

    /** "The home of the class class_ & 7 becomes the group group & 3. Answers the home that it had before." */
    private static void assignWithAnyArguments() {
        for (int classBase : CLASS_BASES) {
            for (int groupBase : GROUP_BASES) {
                ShardedMap map = new ShardedMap();
                for (int call = 0; call < 32; call++) {
                    int class_ = call & 7;
                    int group = (class_ + 1 + (call >> 3)) & 3;
                    int before = (class_ + (call >> 3)) & 3;
                    String when = "assign " + (classBase + class_) + " " + (groupBase + group);
                    Due.is(when, map.assign(classBase + class_, groupBase + group), before);
                    Due.is(when + ", home", map.home(class_), group);
                    Due.is(when + ", home of the next class", map.home(class_ + 1), homeDuring(class_ + 1, call));
                }
            }
        }
    }

    /** In round r of assignWithAnyArguments, class c gets the home c + 1 + r; class 8 is class 0 of this round. */
    private static int homeDuring(int class_, int call) {
        int round = call >> 3;
        return class_ == 8 ? (1 + round) & 3 : (class_ + round) & 3;
    }

    /** Promise 9, the home that the class has already: it is answered, and nothing is changed. */
    private static void assignTheHomeThatItHas() {
        for (int state = 0; state < STATES; state++) {
            ShardedMap map = state(state);
            List<String> before = Asked.questions(map);
            for (int class_ = 0; class_ < 8; class_++) {
                int home = map.home(class_);
                Due.is("the same home, state " + state, map.assign(class_, home), home);
                Due.is("the same home by group & 3, state " + state, map.assign(class_ - 8, home - 4), home);
            }
            Due.same("the same homes, state " + state, Asked.questions(map), before);
            Due.same("the same homes, state " + state, Asked.memories(map, Asked.LAST), Asked.memories(state(state), Asked.LAST));
        }
    }

    /** Away and back, with so many steps on each way. */
    private static void assignBackAndForth() {
        for (int steps = 0; steps < 24; steps++) {
            for (int back = 0; back < 24; back++) {
                ShardedMap map = Asked.filled();
                String when = "away " + steps + ", back " + back;
                Due.is(when + ": away", map.assign(6, 1), 2);
                map.work(steps);
                Due.is(when + ": request", map.addTo(0, 1, 6, 5), 111);
                Due.is(when + ": back", map.assign(6, 2), 1);
                map.work(back);
                map.lose(2);
                Due.is(when + ": again", map.addTo(0, 1, 6, 5), 111);
                Due.is(when + ": next", map.addTo(0, 2, 14, 5), 119);
                Due.is(when + ": away again", map.assign(6, 1), 2);
                map.work(MAX);
                map.lose(1);
                Due.is(when + ": at last", map.get(6), 111);
                Due.is(when + ": remembered", map.remove(0, 2, 6), 119);
                Due.is(when + ": old", map.remove(0, 1, 6), -1);
            }
        }
    }

    /** To a third group before the part has come to the second, and from there to the second after all. */
    private static void assignElsewhereOnTheWay() {
        for (int steps = 0; steps < 24; steps++) {
            for (int more = 0; more < 24; more++) {
                ShardedMap map = Asked.filled();
                String when = "on the way " + steps + ", elsewhere " + more;
                Due.is(when + ": away", map.assign(6, 1), 2);
                map.work(steps);
                Due.is(when + ": elsewhere", map.assign(6, 3), 1);
                Due.is(when + ": request", map.addTo(0, 1, 6, 5), 111);
                map.work(more);
                Due.is(when + ": again", map.addTo(0, 1, 6, 5), 111);
                Due.is(when + ": after all", map.assign(6, 1), 3);
                Due.is(when + ": remove", map.remove(1, 1, 30), 130);
                map.work(MAX);
                Due.is(when + ": at last", map.get(6), 111);
                Due.is(when + ": as it was", map.get(14), 114);
                Due.is(when + ": removed", map.has(30), false);
                Due.is(when + ": remembered", map.addTo(0, 1, 6, 5), 111);
                Due.is(when + ": remembered of another", map.addTo(1, 1, 6, 5), 130);
                Due.is(when + ": remembered of old", map.addTo(3, Asked.LAST, 6, 5), 130);
            }
        }
    }

    /** "The home of the class class_ & 7." */
    private static void homeWithAnyArgument() {
        ShardedMap map = new ShardedMap();
        int[] homes = {3, 1, 0, 2, 1, 3, 2, 0};
        for (int class_ = 0; class_ < 8; class_++) {
            map.assign(class_, homes[class_]);
        }
        for (int base : CLASS_BASES) {
            for (int class_ = 0; class_ < 8; class_++) {
                Due.is("home " + (base + class_), map.home(base + class_), homes[class_]);
            }
        }
    }

    /** The home changes by assign alone and at once; neither work nor lose nor a request changes it. */
    private static void homeIsTheLastAssigned() {
        ShardedMap map = Asked.filled();
        int home = 3;
        for (int call = 0; call < 60; call++) {
            int group = call * 5 % 4;
            Due.is("the home before, " + call, map.assign(7, group), home);
            home = group;
            Due.is("at once, " + call, map.home(7), home);
            map.work(call % 23);
            map.lose(call);
            map.addTo(0, call, 7, 1);
            Due.is("later, " + call, map.home(7), home);
        }
    }

    /** Promise 11: "Changes no answer of any other call.": no steps, fewer than none, very many. */
    private static void workChangesNoAnswer() {
        for (int state = 0; state < STATES; state++) {
            for (int steps : STEPS) {
                changesNoAnswer("work " + steps, state, map -> map.work(steps));
            }
        }
    }

    /** "if there is something to do": nothing to do, on a new object and after all has moved. */
    private static void workWithNothingToDo() {
        for (int steps : STEPS) {
            ShardedMap map = new ShardedMap();
            map.work(steps);
            Due.same("nothing to do, work " + steps, Asked.questions(map), Asked.questions(new ShardedMap()));
            map.assign(0, 1);
            map.work(MAX);
            map.work(steps);
            Due.is("all moved, work " + steps, map.home(0), 1);
            Due.is("all moved, request after work " + steps, map.addTo(0, MIN, 0, 3), 3);
        }
    }

    /** One step at a time, with a request and a crash between each two. */
    private static void workInManySmallCalls() {
        for (int lost = 0; lost < 4; lost++) {
            ShardedMap map = new ShardedMap();
            map.assign(3, 0);
            for (int step = 0; step < 60; step++) {
                map.work(1);
                Due.is("small steps, add " + step, map.addTo(step & 3, step, 3 + 8 * (step % 3), 1), step / 3 + 1);
                if (step % 9 == 8) {
                    map.lose(lost);
                }
                Due.is("small steps, again " + step, map.addTo(step & 3, step, 3, 1), step / 3 + 1);
                Due.is("small steps, old " + step, map.addTo(step & 3, step - 1, 3, 1), -1);
            }
        }
    }

    /** Promise 12: "Changes no answer of any other call.", in each state, for any group. */
    private static void loseChangesNoAnswer() {
        for (int state = 0; state < STATES; state++) {
            for (int base : GROUP_BASES) {
                for (int group = 0; group < 4; group++) {
                    int lost = base + group;
                    changesNoAnswer("lose " + lost, state, map -> map.lose(lost));
                }
            }
        }
    }

    /** "the group group & 3": a move that goes on after it gives the same answers too. */
    private static void loseMeansGroupAndThree() {
        for (int base : GROUP_BASES) {
            for (int group = 0; group < 4; group++) {
                int lost = base + group;
                for (int steps = 0; steps < 23; steps++) {
                    ShardedMap map = Asked.filled();
                    map.assign(4, 3);
                    map.work(steps);
                    map.lose(lost);
                    map.put(0, 1, 28, 1);
                    map.work(MAX);
                    map.lose(lost);
                    String when = "lose " + lost + " after " + steps;
                    Due.is(when + ": get 4", map.get(4), 104);
                    Due.is(when + ": get 28", map.get(28), 1);
                    Due.is(when + ": repeated", map.put(3, Asked.LAST, 4, 9), 128);
                    Due.is(when + ": repeated after it", map.put(0, 1, 4, 9), 128);
                    Due.is(when + ": old", map.put(3, Asked.LAST - 1, 4, 9), -1);
                }
            }
        }
    }

    /** All machines down at once, whichever goes first. */
    private static void loseOfAllGroupsInEachOrder() {
        for (int state = 0; state < STATES; state++) {
            for (int order = 0; order < 8; order++) {
                int first = order & 3;
                int step = order < 4 ? 1 : 3;
                changesNoAnswer("lose all from " + first + " by " + step, state, map -> {
                    for (int lost = 0; lost < 4; lost++) {
                        map.lose(first + lost * step);
                    }
                });
            }
        }
    }

    private static void changesNoAnswer(String what, int state, Consumer<ShardedMap> call) {
        ShardedMap map = state(state);
        List<String> before = Asked.questions(map);
        call.accept(map);
        Due.same(what + ", state " + state, Asked.questions(map), before);
        Due.same(what + ", state " + state, Asked.memories(map, Asked.LAST), Asked.memories(state(state), Asked.LAST));
    }

    /** Objects at rest, with parts on their way, and with parts that have come to a new home. */
    private static ShardedMap state(int state) {
        ShardedMap map = state == 0 ? new ShardedMap() : Asked.filled();
        if (state < 2) {
            return map;
        }
        for (int class_ = 0; class_ < 8; class_++) {
            map.assign(class_, class_ + 1 + class_ / 4);
        }
        map.addTo(0, Asked.LAST, 8, 1);
        int[] steps = {0, 1, 12, 20, 21, 70, MAX};
        map.work(steps[state - 2]);
        map.addTo(1, Asked.LAST, 16, 1);
        return map;
    }
}
