import java.util.ArrayList;
import java.util.Arrays;
import java.util.List;
import java.util.function.Supplier;

/**
 * Every call with each of its numbers just below, just at and just above each bound, the least and the
 * greatest int, and such as would be fine again if they were cut short; and that neither a refused call nor
 * a question changes anything that another call shows. Two objects are brought to the same scene, one of
 * them is asked what is refused, then both must show the same.
 */
public final class PokerEveningRefusals {
    private static final int BAD = -1, NO = -2, FULL = -3, NONE = -4;
    private static final int MOST_CALLS = 512;
    private static int wrong = 0;
    private static int asked = 0;

    /** A call of the face, by its name, with as many numbers as it takes. */
    interface Call {
        int on(PokerEvening x, int[] numbers);
    }

    /** From which number to which one it is told; how many tellers, facts and claims there are depends on the scene. */
    interface Bounds {
        int[] in(Scene scene);
    }

    record Named(String name, boolean asks, Call call, Bounds[] bounds) { }

    record Scene(String name, Supplier<PokerEvening> made, int tellers, int facts, int claims, int calls) { }

    private static final Bounds TELLER = s -> new int[] {0, s.tellers - 1};
    private static final Bounds FACT = s -> new int[] {0, s.facts - 1};
    private static final Bounds CLAIM = s -> new int[] {0, s.claims - 1};
    private static final Bounds PLACE_OR_ALL = s -> new int[] {-1, s.claims - 1};

    private static Bounds from(int least, int most) {
        return s -> new int[] {least, most};
    }

    private static Named question(String name, Call call, Bounds... bounds) {
        return new Named(name, true, call, bounds);
    }

    private static Named act(String name, Call call, Bounds... bounds) {
        return new Named(name, false, call, bounds);
    }

    private static final List<Named> CALLS = List.of(
            act("write", (x, n) -> x.write(n[0]), from(32, 126)),
            question("teller", (x, n) -> x.teller(n[0], n[1]), TELLER, from(0, 1)),
            question("fact", (x, n) -> x.fact(n[0]), FACT),
            question("claim", (x, n) -> x.claim(n[0], n[1]), CLAIM, from(0, 4)),
            act("turn", (x, n) -> x.turn(n[0]), FACT),
            act("add", (x, n) -> x.add(n[0], n[1], n[2], n[3]), TELLER, FACT, from(0, 1), from(1, 20)),
            act("strike", (x, n) -> x.strike(n[0]), CLAIM),
            act("shift", (x, n) -> x.shift(n[0], n[1]), CLAIM, CLAIM),
            act("grip", (x, n) -> x.grip(n[0], n[1]), TELLER, from(1, 40)),
            question("drops", (x, n) -> x.drops(n[0]), TELLER),
            question("hot", (x, n) -> x.hot(n[0]), CLAIM),
            question("order", (x, n) -> x.order(n[0]), PLACE_OR_ALL),
            question("leave", (x, n) -> x.leave(n[0], n[1]), TELLER, from(0, 1)),
            question("holds", (x, n) -> x.holds(n[0], n[1]), TELLER, from(0, 1)),
            act("seen", (x, n) -> x.seen(n[0], n[1]), TELLER, from(0, 7)),
            question("worlds", (x, n) -> x.worlds(n[0]), from(0, 3)),
            question("next", (x, n) -> x.next(n[0], n[1]), TELLER, from(1, 20)),
            question("kinds", (x, n) -> x.kinds(n[0]), TELLER),
            question("grips", (x, n) -> x.grips(n[0], n[1]), TELLER, from(0, 1)),
            question("likely", (x, n) -> x.likely(n[0], n[1], n[2]), TELLER, from(0, 10), from(0, 1)),
            question("evenings", (x, n) -> x.evenings(n[0], n[1], n[2]), from(0, 9999), from(1, 60), from(0, 2)),
            question("count", (x, n) -> x.count(n[0]), from(0, 10)));

    private static final String FULL_ROOM = "t00,01;t01,02;t02,03;t03,04;t00,05;" + "f00;f01;f00;f01;f00;f01;"
            + "c00,00,00,01;c01,01,01,02;c02,02,00,03;c03,03,01,04;c04,04,00,05;c00,05,01,06;c01,00,00,07;";
    private static final String SOME_ROOM = "t2,9;t3,11;f1;f0;f1;c0,0,0,5;c1,1,1,7;c0,2,0,6;";

    private static final Scene NEW = new Scene("new", PokerEvening::new, 4, 4, 7, 0);
    private static final Scene LEAST = new Scene("least", PokerEveningRefusals::least, 1, 1, 0, 9);
    private static final Scene MOST = new Scene("most", PokerEveningRefusals::most, 5, 6, 7, 218);
    private static final Scene MIDWAY = new Scene("midway", PokerEveningRefusals::midway, 2, 3, 3, 55);
    private static final Scene STRUCK = new Scene("struck", PokerEveningRefusals::struck, 4, 4, 1, 11);
    private static final Scene WATCHED = new Scene("watched", PokerEveningRefusals::watched, 4, 4, 6, 7);
    private static final List<Scene> SCENES = List.of(NEW, LEAST, MOST, MIDWAY, STRUCK, WATCHED);

    private static void write(PokerEvening x, String text) {
        for (int i = 0; i < text.length(); i++) {
            x.write(text.charAt(i));
        }
    }

    private static PokerEvening least() {
        PokerEvening x = new PokerEvening();
        write(x, "t0,1;f0;");
        x.lay();
        return x;
    }

    /** As much of everything as there may be; no world fits what was seen; the text has a fault. */
    private static PokerEvening most() {
        PokerEvening x = new PokerEvening();
        write(x, FULL_ROOM);
        x.lay();
        x.turn(0);
        x.grip(4, 40);
        x.keep();
        x.shift(0, 6);
        x.strike(3);
        x.keep();
        x.add(0, 1, 0, 9);
        x.turn(5);
        x.turn(5);
        x.grip(4, 5);
        x.shift(6, 0);
        for (int k = 2; k < 8; k++) {
            x.seen(k % 5, k);
        }
        write(x, "q".repeat(50));
        return x;
    }

    private static PokerEvening midway() {
        PokerEvening x = new PokerEvening();
        write(x, SOME_ROOM);
        x.lay();
        x.turn(1);
        x.keep();
        x.grip(0, 8);
        x.shift(2, 0);
        x.seen(1, 7);
        x.write('q');
        return x;
    }

    /** All claims but the first are gone: what they had been must not be found again. */
    private static PokerEvening struck() {
        PokerEvening x = new PokerEvening();
        for (int c = 6; c > 0; c--) {
            x.strike(c);
        }
        write(x, "t0,1;");
        return x;
    }

    /** As much as may be is seen, and all of it is so. */
    private static PokerEvening watched() {
        PokerEvening x = new PokerEvening();
        x.strike(6);
        for (int i = 0; i < 3; i++) {
            x.seen(1, 2);
            x.seen(0, 7);
        }
        return x;
    }

    public static void main(String[] args) {
        for (Scene scene : SCENES) {
            sceneIsAsTold(scene);
            for (Named named : CALLS) {
                withinBounds(scene, named);
                for (int i = 0; i < named.bounds.length; i++) {
                    outOfBounds(scene, named, i);
                }
                allOutOfBounds(scene, named);
            }
        }
        refusedAsThingsStand();
        questionsWithoutNumbers();
        changesOfItsOwnAlone();
        System.out.println(asked - wrong + " answers of " + asked + " are as due");
        if (wrong != 0) {
            System.exit(1);
        }
    }

    private static void due(String what, int got, int want) {
        asked++;
        if (got != want) {
            wrong++;
            System.out.println(what + " answered " + got + ", due is " + want);
        }
    }

    private static void sceneIsAsTold(Scene scene) {
        PokerEvening x = scene.made.get();
        due(scene.name + ": count(0)", x.count(0), scene.tellers);
        due(scene.name + ": count(1)", x.count(1), scene.facts);
        due(scene.name + ": count(2)", x.count(2), scene.claims);
    }

    // ---- just at each bound

    /** Each number just at one of its bounds: never BAD. */
    private static void withinBounds(Scene scene, Named named) {
        for (int high = 0; high < 1 << named.bounds.length; high++) {
            int[] numbers = new int[named.bounds.length];
            boolean any = true;
            for (int i = 0; i < numbers.length; i++) {
                int[] bounds = named.bounds[i].in(scene);
                any &= bounds[0] <= bounds[1];
                numbers[i] = bounds[high >> i & 1];
            }
            if (any) {
                PokerEvening x = scene.made.get();
                due(told(scene, named, numbers) + " is BAD", named.call.on(x, numbers) == BAD ? 1 : 0, 0);
                if (named.asks) {
                    leavesAll(scene, named, numbers);
                }
            }
        }
    }

    // ---- just below and just above each bound

    private static void outOfBounds(Scene scene, Named named, int i) {
        int[] bounds = named.bounds[i].in(scene);
        for (boolean high : new boolean[] {false, true}) {
            int[] numbers = fine(scene, named, high);
            PokerEvening x = scene.made.get();
            for (int number : outside(bounds)) {
                numbers[i] = number;
                due(told(scene, named, numbers), named.call.on(x, numbers), BAD);
            }
            numbers[i] = bounds[0] - 1;
            leavesAll(scene, named, numbers);
            numbers[i] = bounds[1] + 1;
            leavesAll(scene, named, numbers);
        }
    }

    private static void allOutOfBounds(Scene scene, Named named) {
        PokerEvening x = scene.made.get();
        for (int number : new int[] {Integer.MIN_VALUE, -2, 10001, Integer.MAX_VALUE}) {
            int[] numbers = new int[named.bounds.length];
            Arrays.fill(numbers, number);
            due(told(scene, named, numbers), named.call.on(x, numbers), BAD);
            leavesAll(scene, named, numbers);
        }
    }

    private static int[] fine(Scene scene, Named named, boolean high) {
        int[] numbers = new int[named.bounds.length];
        for (int i = 0; i < numbers.length; i++) {
            int[] bounds = named.bounds[i].in(scene);
            numbers[i] = high ? Math.max(bounds[0], bounds[1]) : bounds[0];
        }
        return numbers;
    }

    /** Numbers out of the bounds, those among them that are within once their upper bits, or the sign, are lost. */
    private static List<Integer> outside(int[] bounds) {
        int least = bounds[0];
        int most = bounds[1];
        List<Integer> numbers = new ArrayList<>();
        for (int number : new int[] {Integer.MIN_VALUE, Integer.MIN_VALUE + 1, least - 2, least - 1, most + 1, most + 2,
            Integer.MAX_VALUE - 1, Integer.MAX_VALUE, least + 8, least + 16, least + 32, least + 64, least + 128, least + 256,
            least + 65536, least + Integer.MIN_VALUE, most + Integer.MIN_VALUE, -most, ~least}) {
            if (number < least || number > most) {
                numbers.add(number);
            }
        }
        return numbers;
    }

    // ---- NO, NONE, FULL

    private static void refusedAsThingsStand() {
        refused(NEW, "lay", NO, x -> x.lay());
        refused(NEW, "undo", NO, x -> x.undo());
        refused(NEW, "back", NO, x -> x.back());
        refused(NEW, "add(0, 0, 0, 1)", FULL, x -> x.add(0, 0, 0, 1));
        refused(NEW, "add(3, 3, 1, 20)", FULL, x -> x.add(3, 3, 1, 20));
        refused(NEW, "shift(0, 0)", NO, x -> x.shift(0, 0));
        refused(NEW, "shift(6, 6)", NO, x -> x.shift(6, 6));
        refused(NEW, "grip(0, 10)", NO, x -> x.grip(0, 10));
        refused(NEW, "grip(3, 9)", NO, x -> x.grip(3, 9));
        refused(NEW, "next(0, 1)", NONE, x -> x.next(0, 1));
        refused(NEW, "next(3, 20)", NONE, x -> x.next(3, 20));
        refused(NEW, "drops(0)", NONE, x -> x.drops(0));
        refused(NEW, "hot(6)", NONE, x -> x.hot(6));
        refused(NEW, "fault()", NONE, x -> x.fault());
        refused(LEAST, "undo", NO, x -> x.undo());
        refused(LEAST, "back", NO, x -> x.back());
        refused(LEAST, "grip(0, 1)", NO, x -> x.grip(0, 1));
        refused(LEAST, "drops(0)", NONE, x -> x.drops(0));
        refused(MOST, "write(32)", FULL, x -> x.write(32));
        refused(MOST, "write(126)", FULL, x -> x.write(126));
        refused(MOST, "lay()", NO, x -> x.lay());
        refused(MOST, "add(0, 0, 0, 1)", FULL, x -> x.add(0, 0, 0, 1));
        refused(MOST, "add(4, 5, 1, 20)", FULL, x -> x.add(4, 5, 1, 20));
        refused(MOST, "shift(0, 0)", NO, x -> x.shift(0, 0));
        refused(MOST, "shift(6, 6)", NO, x -> x.shift(6, 6));
        refused(MOST, "grip(0, 1)", NO, x -> x.grip(0, 1));
        refused(MOST, "grip(4, 5)", NO, x -> x.grip(4, 5));
        refused(MOST, "seen(0, 0)", FULL, x -> x.seen(0, 0));
        refused(MOST, "seen(4, 7)", FULL, x -> x.seen(4, 7));
        refused(MOST, "keep()", FULL, x -> x.keep());
        refused(MOST, "worlds(1)", NONE, x -> x.worlds(1));
        refused(MOST, "worlds(2)", NONE, x -> x.worlds(2));
        refused(MOST, "worlds(3)", NONE, x -> x.worlds(3));
        refused(MOST, "next(4, 20)", NONE, x -> x.next(4, 20));
        refused(MOST, "grips(4, 1)", NONE, x -> x.grips(4, 1));
        refused(MIDWAY, "lay()", NO, x -> x.lay());
        refused(MIDWAY, "shift(2, 2)", NO, x -> x.shift(2, 2));
        refused(MIDWAY, "grip(0, 8)", NO, x -> x.grip(0, 8));
        refused(MIDWAY, "grip(1, 11)", NO, x -> x.grip(1, 11));
        refused(STRUCK, "lay()", NO, x -> x.lay());
        refused(STRUCK, "back()", NO, x -> x.back());
        refused(STRUCK, "shift(0, 0)", NO, x -> x.shift(0, 0));
        refused(WATCHED, "seen(0, 0)", FULL, x -> x.seen(0, 0));
        refused(WATCHED, "seen(1, 7)", FULL, x -> x.seen(1, 7));
        refused(WATCHED, "drops(0)", NONE, x -> x.drops(0));
        refused(WATCHED, "grip(2, 12)", NO, x -> x.grip(2, 12));
    }

    interface Plain {
        int on(PokerEvening x);
    }

    private static void refused(Scene scene, String name, int want, Plain call) {
        due(scene.name + ": " + name, call.on(scene.made.get()), want);
        leavesAll(scene, new Named(name, true, (x, n) -> call.on(x), new Bounds[0]), new int[0]);
    }

    private static void questionsWithoutNumbers() {
        for (Scene scene : SCENES) {
            leavesAll(scene, question("fault", (x, n) -> x.fault()), new int[0]);
            leavesAll(scene, question("told", (x, n) -> x.told()), new int[0]);
            leavesAll(scene, question("hottest", (x, n) -> x.hottest()), new int[0]);
        }
    }

    // ---- nothing else changes

    /** Of what is seen, can be undone, is kept and written, a call that is not refused changes its own alone. */
    private static void changesOfItsOwnAlone() {
        then("turn(0)", x -> x.turn(0), 1, 4, 1, 48);
        then("add(0, 0, 0, 1)", x -> x.add(0, 0, 0, 1), 1, 4, 1, 48);
        then("strike(0)", x -> x.strike(0), 1, 4, 1, 48);
        then("shift(0, 1)", x -> x.shift(0, 1), 1, 4, 1, 48);
        then("grip(0, 9)", x -> x.grip(0, 9), 1, 4, 1, 48);
        then("undo()", x -> x.undo(), 1, 2, 1, 48);
        then("seen(0, 0)", x -> x.seen(0, 0), 2, 3, 1, 48);
        then("forget()", x -> x.forget(), 0, 3, 1, 48);
        then("keep()", x -> x.keep(), 1, 3, 2, 48);
        then("back()", x -> x.back(), 1, 0, 0, 48);
        then("write(97)", x -> x.write(97), 1, 3, 1, 49);
        then("wipe()", x -> x.wipe(), 1, 3, 1, 0);
    }

    private static void then(String name, Plain call, int seen, int undone, int kept, int letters) {
        PokerEvening x = MIDWAY.made.get();
        due(name + " is refused", call.on(x) < 0 ? 1 : 0, 0);
        due("behind " + name + ": count(7)", x.count(7), seen);
        due("behind " + name + ": count(8)", x.count(8), undone);
        due("behind " + name + ": count(9)", x.count(9), kept);
        due("behind " + name + ": count(10)", x.count(10), letters);
    }

    // ---- nothing changes

    /** What calls show of an object; each way uses the object up, so each has an object of its own. */
    interface View {
        List<Integer> of(PokerEvening x);
    }

    private static final View[] VIEWS = {PokerEveningRefusals::roomAndAnswers, PokerEveningRefusals::whatCanBeUndone,
        PokerEveningRefusals::whatIsKept, PokerEveningRefusals::theText};
    private static final String[] VIEW_NAMES = {"the room and its answers", "what can be undone", "what is kept", "the text"};
    private static final int MOST_CALLS_OF_A_VIEW = 260;

    private static void leavesAll(Scene scene, Named named, int[] numbers) {
        due("calls within " + MOST_CALLS, scene.calls + 1 + MOST_CALLS_OF_A_VIEW <= MOST_CALLS ? 0 : 1, 0);
        for (int i = 0; i < VIEWS.length; i++) {
            PokerEvening other = scene.made.get();
            named.call.on(other, numbers);
            List<Integer> shown = VIEWS[i].of(other);
            due(told(scene, named, numbers) + " changes " + VIEW_NAMES[i],
                    shown.equals(VIEWS[i].of(scene.made.get())) ? 0 : 1, 0);
        }
    }

    private static List<Integer> roomAndAnswers(PokerEvening x) {
        List<Integer> shown = new ArrayList<>();
        counts(x, shown);
        for (int t = 0; t < 5; t++) {
            shown.addAll(List.of(x.teller(t, 0), x.teller(t, 1), x.drops(t), x.leave(t, 0), x.leave(t, 1), x.holds(t, 0),
                    x.holds(t, 1), x.next(t, 7)));
            shown.addAll(List.of(x.kinds(t), x.grips(t, 0), x.grips(t, 1), x.likely(t, 3, 0), x.likely(t, 3, 1)));
        }
        for (int f = 0; f < 6; f++) {
            shown.add(x.fact(f));
        }
        for (int c = 0; c < 7; c++) {
            shown.addAll(List.of(x.claim(c, 0), x.claim(c, 1), x.claim(c, 2), x.claim(c, 3), x.claim(c, 4), x.hot(c)));
        }
        for (int k = -1; k < 7; k++) {
            shown.add(x.order(k));
        }
        for (int what = 0; what < 4; what++) {
            shown.add(x.worlds(what));
        }
        for (int what = 0; what < 3; what++) {
            shown.add(x.evenings(4321, 9, what));
        }
        shown.addAll(List.of(x.told(), x.hottest(), x.fault(), x.forget(), x.worlds(0)));
        return shown;
    }

    private static void counts(PokerEvening x, List<Integer> shown) {
        for (int what = 0; what <= 10; what++) {
            shown.add(x.count(what));
        }
    }

    private static void brief(PokerEvening x, List<Integer> shown) {
        for (int f = 0; f < 6; f++) {
            shown.add(x.fact(f));
        }
        for (int t = 0; t < 5; t++) {
            shown.add(x.teller(t, 1));
        }
        for (int c = 0; c < 7; c++) {
            shown.addAll(List.of(x.claim(c, 0), x.claim(c, 3)));
        }
    }

    private static List<Integer> whatCanBeUndone(PokerEvening x) {
        List<Integer> shown = new ArrayList<>();
        for (int i = 0; i < 10; i++) {
            brief(x, shown);
            shown.add(x.undo());
        }
        return shown;
    }

    private static List<Integer> whatIsKept(PokerEvening x) {
        List<Integer> shown = new ArrayList<>();
        for (int i = 0; i < 4; i++) {
            brief(x, shown);
            shown.add(x.back());
        }
        return shown;
    }

    private static List<Integer> theText(PokerEvening x) {
        List<Integer> shown = new ArrayList<>();
        shown.addAll(List.of(x.count(10), x.fault(), x.lay()));
        counts(x, shown);
        brief(x, shown);
        write(x, "f1;");
        shown.addAll(List.of(x.fault(), x.lay(), x.count(1), x.wipe()));
        return shown;
    }

    private static String told(Scene scene, Named named, int[] numbers) {
        return scene.name + ": " + named.name + Arrays.toString(numbers);
    }
}
