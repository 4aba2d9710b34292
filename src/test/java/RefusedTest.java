import java.util.ArrayList;
import java.util.List;
import java.util.Set;
import java.util.TreeSet;
import java.util.function.Supplier;
import java.util.function.ToIntFunction;

/**
 * "Of several the first in this order; nothing changes then": each call with numbers at and beyond its bounds, in
 * several towers; behind a refused one, and behind one that only asks, all that other calls show must be as it is
 * without it. What can't be asked at once (what can be UNDONE, what is KEPT, the letters of THE TEXT) is shown by
 * taking it apart.
 */
public final class RefusedTest {
    private static final int BAD = -1, NO = -2, FULL = -3, NONE = -4;
    private static final int LOW = Integer.MIN_VALUE, HIGH = Integer.MAX_VALUE;
    private static final Set<String> ASKING = Set.of("fault", "person", "fear", "work", "behind", "lowest",
        "posting", "timetable", "swap", "can", "nerves", "kinds", "likely", "decade", "count");
    /** What the promises name, and no more. */
    private static final Set<String> NAMED = new TreeSet<>(Set.of(
        "write BAD", "write FULL", "fault NONE", "lay NO", "person BAD", "fear BAD", "work BAD", "pass BAD",
        "pass NO", "promote BAD", "promote NO", "hoist BAD", "hoist NO", "call BAD", "call NO", "undo NO",
        "behind BAD", "lowest BAD", "lowest NO", "posting NONE", "posting BAD", "timetable NONE", "timetable BAD",
        "swap NONE", "swap BAD", "can NONE", "can BAD", "seen BAD", "seen FULL", "nerves NONE", "nerves BAD",
        "kinds BAD", "likely BAD", "decade BAD", "keep FULL", "back NO", "count BAD"));
    private static int checks = 0;
    private static int wrong = 0;

    /** A call by its name, and how it is told. */
    private record Call(String name, String told, ToIntFunction<TowerService> on) {
    }

    public static void main(String[] args) {
        List<Call> calls = allCalls();
        List<Supplier<TowerService>> towers = List.of(TowerService::new, RefusedTest::inTheMidst,
            RefusedTest::allIsFull, RefusedTest::textIsFull, RefusedTest::allGone, RefusedTest::nobodyWritten,
            RefusedTest::smallest, RefusedTest::broughtBack);
        Set<String> met = new TreeSet<>();
        for (int i = 0; i < towers.size(); i++) {
            List<Integer> without = portrait(towers.get(i), null);
            for (Call call : calls) {
                int answer = call.on.applyAsInt(towers.get(i).get());
                if (answer < 0) {
                    met.add(call.name + " " + nameOf(answer));
                }
                if (answer < 0 || ASKING.contains(call.name)) {
                    checkUnchanged("tower " + i, call, without, portrait(towers.get(i), call));
                }
            }
        }
        if (!met.equals(NAMED)) {
            wrong++;
            System.out.println("answers met: " + met + ", named: " + NAMED);
        }
        System.out.println(checks + " portraits held against one another, " + wrong + " wrong");
        if (wrong != 0) {
            System.exit(1);
        }
    }

    private static String nameOf(int answer) {
        return switch (answer) {
            case BAD -> "BAD";
            case NO -> "NO";
            case FULL -> "FULL";
            case NONE -> "NONE";
            default -> "" + answer;
        };
    }

    private static void checkUnchanged(String tower, Call call, List<Integer> without, List<Integer> with) {
        checks++;
        if (!with.equals(without)) {
            wrong++;
            System.out.println(tower + ": " + call.told + " changed something");
        }
    }

    // ---- towers

    private static TowerService laid(String text) {
        TowerService x = new TowerService();
        add(x, text);
        x.lay();
        return x;
    }

    private static void add(TowerService x, String text) {
        for (char letter : text.toCharArray()) {
            x.write(letter);
        }
    }

    private static TowerService inTheMidst() {
        TowerService x = laid("h9;p0,0,12,0;p3,0,14,9;p2,4,24,6;p1,5,30,4;p0,8,12,0;w0,1;w8,1;w4,2;");
        x.call(1);
        x.pass(2);
        x.keep();
        for (int i = 0; i < 3; i++) {
            x.promote(4);
            x.hoist(3);
            x.pass(1);
        }
        x.call(4);
        x.seen(1, 2, 1);
        x.seen(4, 8, 0);
        x.seen(3, 8, 1);
        add(x, "p0,0,1");
        return x;
    }

    private static TowerService allIsFull() {
        TowerService x = laid("p0,5,12,30;p3,4,60,1;w5,1;w0,1;w1,1;w2,1;w3,1;");
        for (int i = 0; i < 24; i++) {
            x.pass(40);
        }
        x.keep();
        x.promote(0);
        x.pass(39);
        x.keep();
        x.call(0);
        x.hoist(1);
        for (int i = 0; i < 6; i++) {
            x.seen(i % 2, i, i % 3 == 0 ? 1 : 0);
        }
        return x;
    }

    private static TowerService textIsFull() {
        TowerService x = new TowerService();
        add(x, "h4;p0,3,12,0;" + "x".repeat(187));
        x.pass(3);
        return x;
    }

    private static TowerService allGone() {
        TowerService x = laid("h10;p0,0,12,0;p0,1,12,0;w0,1;");
        x.keep();
        x.seen(0, 9, 1);
        x.pass(1);
        return x;
    }

    private static TowerService nobodyWritten() {
        TowerService x = new TowerService();
        x.promote(0);
        x.seen(0, 3, 1);
        x.keep();
        add(x, "h3;w2,1;");
        return x;
    }

    private static TowerService smallest() {
        return laid("h2;p0,0,12,0;");
    }

    /** Nothing can be UNDONE, and all has changed since it was laid. */
    private static TowerService broughtBack() {
        TowerService x = new TowerService();
        x.promote(0);
        x.pass(7);
        x.call(2);
        x.keep();
        x.back();
        return x;
    }

    // ---- calls

    private static List<Call> allCalls() {
        List<Call> calls = new ArrayList<>();
        calls.add(new Call("wipe", "wipe()", TowerService::wipe));
        calls.add(new Call("fault", "fault()", TowerService::fault));
        calls.add(new Call("lay", "lay()", TowerService::lay));
        calls.add(new Call("undo", "undo()", TowerService::undo));
        calls.add(new Call("forget", "forget()", TowerService::forget));
        calls.add(new Call("keep", "keep()", TowerService::keep));
        calls.add(new Call("back", "back()", TowerService::back));
        int[] person = {0, 5, -1, 1, 4, 6, LOW, HIGH};
        int[] step = {0, 5, -1, 1, 6, 10, LOW, HIGH};
        addOne(calls, "write", (x, a) -> x.write(a), 32, 31, 126, 127, LOW, HIGH);
        addOne(calls, "pass", (x, a) -> x.pass(a), 1, 0, 40, 41, LOW, HIGH);
        addOne(calls, "promote", (x, a) -> x.promote(a), person);
        addOne(calls, "hoist", (x, a) -> x.hoist(a), person);
        addOne(calls, "call", (x, a) -> x.call(a), person);
        addOne(calls, "lowest", (x, a) -> x.lowest(a), person);
        addOne(calls, "posting", (x, a) -> x.posting(a), 0, -1, -2, 1, 5, 6, LOW, HIGH);
        addOne(calls, "swap", (x, a) -> x.swap(a), 0, 1, -1, 2, LOW, HIGH);
        addOne(calls, "kinds", (x, a) -> x.kinds(a), person);
        addOne(calls, "count", (x, a) -> x.count(a), 0, 10, -1, 11, LOW, HIGH);
        addTwo(calls, "person", (x, a) -> x.person(a[0], a[1]), person, new int[] {0, 7, -1, 8, LOW, HIGH});
        addTwo(calls, "fear", (x, a) -> x.fear(a[0], a[1]), person, step);
        addTwo(calls, "work", (x, a) -> x.work(a[0], a[1]), new int[] {0, 4, -1, 5}, new int[] {2, 0, -1, 3});
        addTwo(calls, "timetable", (x, a) -> x.timetable(a[0], a[1]), new int[] {2, 4, 0, 5}, new int[] {-1, 3, -2, 4});
        addTwo(calls, "nerves", (x, a) -> x.nerves(a[0], a[1]), person, new int[] {1, 0, -1, 2});
        int[] half = {0, 1, -1, 2};
        addThree(calls, "behind", (x, a) -> x.behind(a[0], a[1], a[2]), new int[] {0, 40, -1, 41}, person, half);
        addThree(calls, "can", (x, a) -> x.can(a[0], a[1], a[2]), step, step, half);
        addThree(calls, "seen", (x, a) -> x.seen(a[0], a[1], a[2]), person, step, half);
        addThree(calls, "likely", (x, a) -> x.likely(a[0], a[1], a[2]), new int[] {0, 5, -1, 6},
            new int[] {10, 0, -1, 11}, half);
        addThree(calls, "decade", (x, a) -> x.decade(a[0], a[1], a[2]), new int[] {0, 9999, -1, 10000},
            new int[] {60, 1, 0, 61}, new int[] {2, 0, -1, 3});
        return calls;
    }

    private interface One {
        int on(TowerService x, int a);
    }

    private interface More {
        int on(TowerService x, int[] a);
    }

    private static void addOne(List<Call> calls, String name, One one, int... numbers) {
        for (int a : numbers) {
            calls.add(new Call(name, name + "(" + a + ")", x -> one.on(x, a)));
        }
    }

    private static void addTwo(List<Call> calls, String name, More two, int[] first, int[] second) {
        for (int a : first) {
            for (int b : second) {
                calls.add(new Call(name, name + "(" + a + ", " + b + ")", x -> two.on(x, new int[] {a, b})));
            }
        }
    }

    /** All three beyond their bounds at once as well, but not every three. */
    private static void addThree(List<Call> calls, String name, More three, int[] first, int[] second, int[] third) {
        for (int i = 0; i < first.length; i++) {
            for (int j = 0; j < second.length; j++) {
                for (int k = 0; k < third.length; k++) {
                    int a = first[i];
                    int b = second[j];
                    int c = third[k];
                    boolean isAtABound = (i < 2 ? 0 : 1) + (j < 2 ? 0 : 1) + (k < 2 ? 0 : 1) <= 1;
                    if (isAtABound || i == j && j == k) {
                        calls.add(new Call(name, name + "(" + a + ", " + b + ", " + c + ")",
                            x -> three.on(x, new int[] {a, b, c})));
                    }
                }
            }
        }
    }

    // ---- portraits

    /** All that can be shown of a tower, of several made alike, each behind the call (if there is one). */
    private static List<Integer> portrait(Supplier<TowerService> tower, Call call) {
        List<Integer> shown = new ArrayList<>();
        askAll(made(tower, call), shown);
        TowerService undone = made(tower, call);
        for (int left = 1; left > 0;) {
            left = undone.undo();
            shown.add(left);
            askShort(undone, shown);
        }
        TowerService kept = made(tower, call);
        for (int left = 1; left > 0;) {
            left = kept.back();
            shown.add(left);
            askShort(kept, shown);
        }
        TowerService text = made(tower, call);
        shown.add(text.write(';'));
        shown.add(text.fault());
        shown.add(text.lay());
        askShort(text, shown);
        TowerService more = made(tower, call);
        shown.add(more.lay());
        askShort(more, shown);
        shown.add(more.forget());
        shown.add(more.wipe());
        return shown;
    }

    private static TowerService made(Supplier<TowerService> tower, Call call) {
        TowerService x = tower.get();
        if (call != null) {
            call.on.applyAsInt(x);
        }
        return x;
    }

    private static void askShort(TowerService x, List<Integer> shown) {
        for (int what = 0; what <= 10; what++) {
            shown.add(x.count(what));
        }
        for (int p = 0; p < x.count(1); p++) {
            for (int what : new int[] {1, 2, 3, 7}) {
                shown.add(x.person(p, what));
            }
        }
    }

    private static void askAll(TowerService x, List<Integer> shown) {
        askShort(x, shown);
        shown.add(x.fault());
        int steps = x.count(0);
        for (int p = 0; p < x.count(1); p++) {
            for (int what : new int[] {0, 4, 5, 6}) {
                shown.add(x.person(p, what));
            }
            shown.add(x.fear(p, 0));
            shown.add(x.behind(9, p, 0));
            shown.add(x.behind(9, p, 1));
            shown.add(x.lowest(p));
            shown.add(x.posting(p));
            shown.add(x.nerves(p, 0));
            shown.add(x.nerves(p, 1));
            shown.add(x.kinds(p));
        }
        for (int w = 0; w < x.count(2); w++) {
            for (int what = 0; what < 3; what++) {
                shown.add(x.work(w, what));
            }
        }
        for (int k = -1; k < 2; k++) {
            shown.add(x.timetable(2, k));
        }
        for (int i = 0; i < 2; i++) {
            shown.add(x.swap(i));
            shown.add(x.can(0, steps - 1, i));
            shown.add(x.likely(1, 3, i));
            shown.add(x.decade(7, 20, i));
        }
        shown.add(x.posting(-1));
        shown.add(x.decade(7, 20, 2));
    }
}
