import java.util.ArrayList;
import java.util.List;

/**
 * "Calls that are refused answer, the first of these that fits: UNKNOWN, OUTSIDE, NO, STATE, FULL. They change
 * nothing." Every call, with what is told at both ends and beyond, in every scene; and no question changes anything.
 */
public final class RefusalsTest {
    private static final int UNKNOWN = FairWheel.UNKNOWN, OUTSIDE = FairWheel.OUTSIDE, STATE = FairWheel.STATE;
    private static final int FULL = FairWheel.FULL, NO = FairWheel.NO, NOT_REFUSED = 0;
    private static final int FAR = Integer.MAX_VALUE, FAR_BELOW = Integer.MIN_VALUE;
    private static final List<String> CHANGING =
            List.of("weigh", "drag", "say", "wipe", "done", "seen", "forget", "image", "restore");
    private static final int[] NOTHING = {0};
    private static final int[] EIGHT = {FAR_BELOW, -1, 0, 5, 7, 8, FAR};
    private static final int[] THREE = {FAR_BELOW, -1, 0, 1, 2, 3, FAR};
    private static final int[] TWO = {FAR_BELOW, -1, 0, 1, 2, FAR};

    private interface Ask {
        long of(FairWheel x, int a, int b, int c);
    }

    private interface Refusal {
        int of(Scene s, int a, int b, int c);
    }

    /** A call of the face: what it is told in the first, second and third place, and by what it is refused. */
    private record Call(String name, int[] as, int[] bs, int[] cs, Ask ask, Refusal refusal) {
        boolean isQuestion() {
            return !CHANGING.contains(name);
        }
    }

    private final List<Call> calls = new ArrayList<>();

    private RefusalsTest() {
        wheelsAndTexts();
        evenings();
        downAndBalance();
        untold();
        imagesAndTold();
    }

    public static void main(String[] args) {
        RefusalsTest test = new RefusalsTest();
        Check.due("calls of the face", test.calls.size(), 25);
        for (Scene scene : Scene.all()) {
            List<Long> before = Scene.seen(scene.make());
            Check.dueThat(scene.name + " looks the same twice", before.equals(Scene.seen(scene.make())));
            for (Call call : test.calls) {
                inScene(scene, call, before);
            }
        }
        Check.end();
    }

    private static void inScene(Scene scene, Call call, List<Long> before) {
        for (int a : call.as) {
            for (int b : call.bs) {
                for (int c : call.cs) {
                    FairWheel x = scene.make();
                    long got = call.ask.of(x, a, b, c);
                    int refusal = call.refusal.of(scene, a, b, c);
                    String told = call.name + " " + a + " " + b + " " + c + " in " + scene.name;
                    if (refusal != NOT_REFUSED) {
                        long lost = call.name.equals("chance") ? -1000000000000000000L : 0;
                        Check.due(told, got, lost + refusal);
                    } else {
                        Check.dueThat(told + " is not refused", got >= 0 || got == FairWheel.NONE);
                    }
                    if (refusal != NOT_REFUSED || call.isQuestion()) {
                        Check.dueThat(told + " changes nothing", before.equals(Scene.seen(x)));
                    }
                }
            }
        }
    }

    private void call(String name, int[] as, int[] bs, int[] cs, Ask ask, Refusal refusal) {
        calls.add(new Call(name, as, bs, cs, ask, refusal));
    }

    private static boolean eight(int n) {
        return n >= 0 && n <= 7;
    }

    private static boolean within(int n, int first, int last) {
        return n >= first && n <= last;
    }

    private static int text(Scene s) {
        return s.fault ? NO : s.asked ? STATE : NOT_REFUSED;
    }

    private static int evening(Scene s) {
        return text(s) != NOT_REFUSED ? text(s) : s.canBe ? NOT_REFUSED : NO;
    }

    private void wheelsAndTexts() {
        call("weigh", EIGHT, new int[] {FAR_BELOW, -1, 0, 1, 99, 100, FAR}, NOTHING, (x, a, b, c) -> x.weigh(a, b),
                (s, a, b, c) -> !eight(a) ? UNKNOWN : within(b, 1, 99) ? NOT_REFUSED : OUTSIDE);
        call("drag", new int[] {FAR_BELOW, -1, 0, 9999, 10000, FAR}, NOTHING, NOTHING, (x, a, b, c) -> x.drag(a),
                (s, a, b, c) -> within(a, 0, 9999) ? NOT_REFUSED : OUTSIDE);
        call("say", new int[] {FAR_BELOW, -1, 0, 32, 33, 63, 65, 126, 127, FAR}, NOTHING, NOTHING,
                (x, a, b, c) -> x.say(a),
                (s, a, b, c) -> !within(a, 33, 126) ? OUTSIDE : s.pad.length() == 60 ? FULL : NOT_REFUSED);
        call("wipe", NOTHING, NOTHING, NOTHING, (x, a, b, c) -> x.wipe(), (s, a, b, c) -> NOT_REFUSED);
        call("fault", NOTHING, NOTHING, NOTHING, (x, a, b, c) -> x.fault(), (s, a, b, c) -> NOT_REFUSED);
    }

    private void evenings() {
        call("judge", TWO, NOTHING, NOTHING, (x, a, b, c) -> x.judge(a),
                (s, a, b, c) -> within(a, 0, 1) ? text(s) : OUTSIDE);
        call("done", NOTHING, NOTHING, NOTHING, (x, a, b, c) -> x.done(), (s, a, b, c) -> evening(s));
        call("foot", NOTHING, NOTHING, NOTHING, (x, a, b, c) -> x.foot(), (s, a, b, c) -> NOT_REFUSED);
        call("car", EIGHT, THREE, NOTHING, (x, a, b, c) -> x.car(a, b),
                (s, a, b, c) -> !eight(a) ? UNKNOWN : within(b, 0, 2) ? NOT_REFUSED : OUTSIDE);
        call("pull", NOTHING, NOTHING, NOTHING, (x, a, b, c) -> x.pull(), (s, a, b, c) -> NOT_REFUSED);
        call("behind", THREE, NOTHING, NOTHING, (x, a, b, c) -> x.behind(a),
                (s, a, b, c) -> within(a, 0, 2) ? evening(s) : OUTSIDE);
        call("leftOut", new int[] {FAR_BELOW, -2, -1, 0, 59, 60, FAR}, NOTHING, NOTHING, (x, a, b, c) -> x.leftOut(a),
                (s, a, b, c) -> evening(s));
    }

    private static int aboard(Scene s, int person) {
        return s.isAboard(person) ? NOT_REFUSED : STATE;
    }

    private static int balance(int set, int person) {
        if (person != -1 && !eight(person)) {
            return UNKNOWN;
        }
        if (!within(set, 0, 255)) {
            return OUTSIDE;
        }
        if (person != -1 && (set & 1 << person) == 0) {
            return UNKNOWN;
        }
        return Integer.bitCount(set) > 5 ? FULL : NOT_REFUSED;
    }

    private void downAndBalance() {
        call("down", EIGHT, THREE, NOTHING, (x, a, b, c) -> x.down(a, b),
                (s, a, b, c) -> !eight(a) ? UNKNOWN : within(b, 0, 2) ? aboard(s, a) : OUTSIDE);
        call("pebbles", EIGHT, NOTHING, NOTHING, (x, a, b, c) -> x.pebbles(a),
                (s, a, b, c) -> eight(a) ? aboard(s, a) : UNKNOWN);
        call("brake", NOTHING, NOTHING, NOTHING, (x, a, b, c) -> x.brake(), (s, a, b, c) -> NOT_REFUSED);
        call("balance", new int[] {FAR_BELOW, -1, 0, 31, 33, 63, 161, 248, 255, 256, FAR}, EIGHT, NOTHING,
                (x, a, b, c) -> x.balance(a, b), (s, a, b, c) -> balance(a, b));
    }

    private void untold() {
        call("could", EIGHT, EIGHT, THREE, (x, a, b, c) -> x.could(a, b, c),
                (s, a, b, c) -> !eight(a) || !eight(b) ? UNKNOWN : within(c, 0, 2) ? text(s) : OUTSIDE);
        call("seen", EIGHT, EIGHT, NOTHING, (x, a, b, c) -> x.seen(a, b),
                (s, a, b, c) -> !eight(a) || !eight(b) ? UNKNOWN : s.sights == 6 ? FULL : NOT_REFUSED);
        call("forget", NOTHING, NOTHING, NOTHING, (x, a, b, c) -> x.forget(), (s, a, b, c) -> NOT_REFUSED);
        call("filled", new int[] {FAR_BELOW, -2, -1, 0, 2, 3, FAR}, NOTHING, NOTHING, (x, a, b, c) -> x.filled(a),
                (s, a, b, c) -> s.fault ? NO : NOT_REFUSED);
        call("chance", EIGHT, new int[] {FAR_BELOW, -1, 0, 3, 4, FAR}, TWO, (x, a, b, c) -> x.chance(a, b, c),
                (s, a, b, c) -> !eight(a) ? UNKNOWN : within(b, 0, 3) && within(c, 0, 1) ? NOT_REFUSED : OUTSIDE);
        call("year", new int[] {FAR_BELOW, -1, 0, 9999, 10000, FAR}, new int[] {FAR_BELOW, 0, 1, 99, 100, FAR},
                new int[] {FAR_BELOW, -2, -1, 0, 7, 8, FAR}, (x, a, b, c) -> x.year(a, b, c),
                (s, a, b, c) -> c != -1 && !eight(c) ? UNKNOWN
                        : within(a, 0, 9999) && within(b, 1, 99) ? NOT_REFUSED : OUTSIDE);
    }

    private void imagesAndTold() {
        call("image", TWO, NOTHING, NOTHING, (x, a, b, c) -> x.image(a),
                (s, a, b, c) -> within(a, 0, 1) ? NOT_REFUSED : OUTSIDE);
        call("restore", TWO, NOTHING, NOTHING, (x, a, b, c) -> x.restore(a),
                (s, a, b, c) -> !within(a, 0, 1) ? OUTSIDE : s.isKept(a) ? NOT_REFUSED : STATE);
        call("told", new int[] {FAR_BELOW, -1, 0, 3, 4, 9, 10, 17, 18, 19, 20, 27, 28, FAR}, NOTHING, NOTHING,
                (x, a, b, c) -> x.told(a),
                (s, a, b, c) -> within(a, 0, 3) || within(a, 10, 17) || within(a, 20, 27) ? NOT_REFUSED : OUTSIDE);
    }
}
