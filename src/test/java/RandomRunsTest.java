/** Long runs of drawn calls, each answer held against PlainWheel's. The draws are the same each time. */
public final class RandomRunsTest {
    private static final int RUNS = 400, CALLS = 500;
    private static final String SIGNS = "ABCDEFGHabcdefgh0123456789^^^^^^>>>><<<<";

    private long state;

    private RandomRunsTest(long seed) {
        state = seed;
    }

    private int draw(int below) {
        state = state * 6364136223846793005L + 1442695040888963407L;
        return (int) ((state >>> 33) % below);
    }

    private int near(int first, int last) {
        return first - 1 + draw(last - first + 3);
    }

    public static void main(String[] args) {
        for (int run = 0; run < RUNS; run++) {
            new RandomRunsTest(run * 7919L + 17).run(run);
        }
        Check.end();
    }

    private void run(int run) {
        FairWheel x = new FairWheel();
        PlainWheel y = new PlainWheel();
        int calls = 0;
        while (calls < CALLS) {
            calls += draw(3) == 0 ? writeText(run, x, y) : oneCall(run, x, y);
        }
    }

    private int writeText(int run, FairWheel x, PlainWheel y) {
        due(run, "wipe", x.wipe(), y.wipe());
        int length = draw(5) == 0 ? draw(70) : draw(14);
        for (int i = 0; i < length; i++) {
            int sign = drawSign();
            // mostly signs that can be there, so that whole evenings come about
            for (int tries = 0; tries < 6 && !canStand(y, sign); tries++) {
                sign = drawSign();
            }
            due(run, "say " + (char) sign, x.say(sign), y.say(sign));
        }
        if (draw(3) == 0) {
            due(run, "done", x.done(), y.done());
        }
        return length + 2;
    }

    private int drawSign() {
        if (draw(60) == 0) {
            return draw(2) == 0 ? '?' : near(33, 126);
        }
        return SIGNS.charAt(draw(SIGNS.length()));
    }

    private boolean canStand(PlainWheel y, int sign) {
        if (y.told(0) >= 60 || sign < 33 || sign > 126) {
            return true;
        }
        return SIGNS.indexOf(sign) < 0 || y.canBeWith((char) sign);
    }

    private int oneCall(int run, FairWheel x, PlainWheel y) {
        int a = near(0, 7);
        int b = near(0, 7);
        int c = near(0, 2);
        switch (draw(28)) {
            case 0:
                int v = draw(3) == 0 ? near(1, 99) : 1 + draw(30);
                return due(run, "weigh " + a + " " + v, x.weigh(a, v), y.weigh(a, v));
            case 1:
                int d = draw(6) == 0 ? near(0, 9999) : draw(200);
                return due(run, "drag " + d, x.drag(d), y.drag(d));
            case 2:
                return due(run, "fault", x.fault(), y.fault());
            case 3:
                return due(run, "judge " + c, x.judge(c), y.judge(c));
            case 4:
                return due(run, "done", x.done(), y.done());
            case 5:
                return due(run, "foot", x.foot(), y.foot());
            case 6:
                return due(run, "car " + a + " " + c, x.car(a, c), y.car(a, c));
            case 7:
                return due(run, "pull", x.pull(), y.pull());
            case 8:
            case 9:
                return due(run, "behind " + c, x.behind(c), y.behind(c));
            case 10:
            case 11:
                int i = near(-1, 12);
                return due(run, "leftOut " + i, x.leftOut(i), y.leftOut(i));
            case 12:
            case 13:
            case 14:
                return due(run, "down " + a + " " + c, x.down(a, c), y.down(a, c));
            case 15:
            case 16:
                return due(run, "pebbles " + a, x.pebbles(a), y.pebbles(a));
            case 17:
                return due(run, "brake", x.brake(), y.brake());
            case 18:
                return drawBalance(run, x, y);
            case 19:
                return due(run, "could " + a + " " + b + " " + c, x.could(a, b, c), y.could(a, b, c));
            case 20:
                return drawFilled(run, x, y);
            case 21:
                return due(run, "seen " + a + " " + b, x.seen(a, b), y.seen(a, b));
            case 22:
                return draw(3) > 0 ? 0 : due(run, "forget", x.forget(), y.forget());
            case 23:
                int m = near(0, 3);
                int part = near(0, 1);
                return due(run, "chance " + a + " " + m + " " + part, x.chance(a, m, part), y.chance(a, m, part));
            case 24:
                int seed = near(0, 9999);
                int turns = near(1, 99);
                int car = near(-1, 7);
                return due(run, "year " + seed + " " + turns + " " + car, x.year(seed, turns, car),
                        y.year(seed, turns, car));
            case 25:
                int n = near(0, 1);
                return due(run, "image " + n, x.image(n), y.image(n));
            case 26:
                int k = near(0, 1);
                return due(run, "restore " + k, x.restore(k), y.restore(k));
            default:
                int t = near(0, 28);
                return due(run, "told " + t, x.told(t), y.told(t));
        }
    }

    private int drawBalance(int run, FairWheel x, PlainWheel y) {
        int set = near(0, 255);
        // the plain count of ways for five is slow
        if (Integer.bitCount(set & 255) == 5 && draw(4) > 0) {
            set &= set - 1;
        }
        int person = near(-1, 7);
        return due(run, "balance " + set + " " + person, x.balance(set, person), y.balance(set, person));
    }

    /** A text with a few that are not told, and sights that are mostly so. */
    private int drawFilled(int run, FairWheel x, PlainWheel y) {
        String[] texts = {"?", "?>?", "?^>?^", "A>?>^?", "?>>?>^>?^", "5?>^?", "??", "?a>?^", "?>?>?>?", "?<B<?^<?", "^?^>?^>?^"};
        String text = texts[draw(texts.length)];
        due(run, "wipe", x.wipe(), y.wipe());
        for (int i = 0; i < text.length(); i++) {
            due(run, "say", x.say(text.charAt(i)), y.say(text.charAt(i)));
        }
        due(run, "forget", x.forget(), y.forget());
        int seen = draw(4) == 0 ? 7 : draw(3);
        for (int i = 0; i < seen; i++) {
            int person = draw(8);
            int car = draw(8);
            due(run, "seen", x.seen(person, car), y.seen(person, car));
        }
        for (int i = -2; i < 4; i++) {
            due(run, "filled " + i + " of " + text, x.filled(i), y.filled(i));
        }
        return text.length() + seen + 8;
    }

    private static int due(int run, String call, long got, long want) {
        Check.due("run " + run + ": " + call, got, want);
        return 1;
    }
}
