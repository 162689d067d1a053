/** Long runs of drawn calls, each answer held against PlainWheel's. The draws are the same each time. */
public final class RandomRunsTest {
    /** An object is asked 512 calls at most; the last text of a run may go 80 beyond CALLS. */
    private static final int RUNS = 250, CALLS = 430, WHEELS = 250;
    private static final String SIGNS = "ABCDEFGHabcdefgh0123456789^^^^^^>>>><<<<";

    private long state;

    private RandomRunsTest(long seed) {
        state = seed;
    }

    private int draw(int below) {
        state = state * 6364136223846793005L + 1442695040888963407L;
        return (int) ((state >>> 33) % below);
    }

    /** Mostly from the first to the last, at times one beyond. */
    private int near(int first, int last) {
        if (draw(12) == 0) {
            return draw(2) == 0 ? first - 1 : last + 1;
        }
        return first + draw(last - first + 1);
    }

    public static void main(String[] args) {
        for (int run = 0; run < RUNS; run++) {
            new RandomRunsTest(run * 7919L + 17).run(run);
        }
        for (int wheel = 0; wheel < WHEELS; wheel++) {
            new RandomRunsTest(wheel * 104729L + 5).ask(RUNS + wheel);
        }
        Check.end();
    }

    private void run(int run) {
        FairWheel x = new FairWheel();
        PlainWheel y = new PlainWheel();
        int calls = 0;
        while (calls < CALLS) {
            calls += draw(3) == 0 ? writeText(run, x, y) : oneCall(run, x, y);
        }
    }

    private int writeText(int run, FairWheel x, PlainWheel y) {
        due(run, "wipe", x.wipe(), y.wipe());
        int length = draw(5) == 0 ? draw(70) : draw(14);
        for (int i = 0; i < length; i++) {
            int sign = drawSign();
            // mostly signs that can be there, so that whole evenings come about
            for (int tries = 0; tries < 6 && !canStand(y, sign); tries++) {
                sign = drawSign();
            }
            due(run, "say " + (char) sign, x.say(sign), y.say(sign));
        }
        if (draw(3) == 0) {
            due(run, "done", x.done(), y.done());
        }
        return length + 2;
    }

    private int drawSign() {
        if (draw(60) == 0) {
            return draw(2) == 0 ? '?' : near(33, 126);
        }
        return SIGNS.charAt(draw(SIGNS.length()));
    }

    private boolean canStand(PlainWheel y, int sign) {
        if (y.told(0) >= 60 || sign < 33 || sign > 126) {
            return true;
        }
        return SIGNS.indexOf(sign) < 0 || y.canBeWith((char) sign);
    }

    private int oneCall(int run, FairWheel x, PlainWheel y) {
        int a = near(0, 7);
        int b = near(0, 7);
        int c = near(0, 2);
        switch (draw(28)) {
            case 0:
                int v = draw(3) == 0 ? near(1, 99) : 1 + draw(30);
                return due(run, "weigh " + a + " " + v, x.weigh(a, v), y.weigh(a, v));
            case 1:
                int d = draw(6) == 0 ? near(0, 9999) : draw(200);
                return due(run, "drag " + d, x.drag(d), y.drag(d));
            case 2:
                return due(run, "fault", x.fault(), y.fault());
            case 3:
                return due(run, "judge " + c, x.judge(c), y.judge(c));
            case 4:
                return due(run, "done", x.done(), y.done());
            case 5:
                return due(run, "foot", x.foot(), y.foot());
            case 6:
                return due(run, "car " + a + " " + c, x.car(a, c), y.car(a, c));
            case 7:
                return due(run, "pull", x.pull(), y.pull());
            case 8:
            case 9:
                return due(run, "behind " + c, x.behind(c), y.behind(c));
            case 10:
            case 11:
                int i = near(-1, 12);
                return due(run, "leftOut " + i, x.leftOut(i), y.leftOut(i));
            case 12:
            case 13:
            case 14:
                return due(run, "down " + a + " " + c, x.down(a, c), y.down(a, c));
            case 15:
            case 16:
                return due(run, "pebbles " + a, x.pebbles(a), y.pebbles(a));
            case 17:
                return due(run, "brake", x.brake(), y.brake());
            case 18:
                return drawBalance(run, x, y);
            case 19:
                return due(run, "could " + a + " " + b + " " + c, x.could(a, b, c), y.could(a, b, c));
            case 20:
                return drawFilled(run, x, y);
            case 21:
                return due(run, "seen " + a + " " + b, x.seen(a, b), y.seen(a, b));
            case 22:
                return draw(3) > 0 ? 0 : due(run, "forget", x.forget(), y.forget());
            case 23:
                int m = near(0, 3);
                int part = near(0, 1);
                return due(run, "chance " + a + " " + m + " " + part, x.chance(a, m, part), y.chance(a, m, part));
            case 24:
                int seed = near(0, 9999);
                int turns = near(1, 99);
                int car = near(-1, 7);
                return due(run, "year " + seed + " " + turns + " " + car, x.year(seed, turns, car),
                        y.year(seed, turns, car));
            case 25:
                int n = near(0, 1);
                return due(run, "image " + n, x.image(n), y.image(n));
            case 26:
                int k = near(0, 1);
                return due(run, "restore " + k, x.restore(k), y.restore(k));
            default:
                int t = near(0, 28);
                return due(run, "told " + t, x.told(t), y.told(t));
        }
    }

    private int drawBalance(int run, FairWheel x, PlainWheel y) {
        int set = near(0, 255);
        // the plain count of ways for five is slow
        if (Integer.bitCount(set & 255) == 5 && draw(4) > 0) {
            set &= set - 1;
        }
        int person = near(-1, 7);
        return due(run, "balance " + set + " " + person, x.balance(set, person), y.balance(set, person));
    }

    /** A wheel that is filled as drawn is asked all that is dear. */
    private void ask(int run) {
        FairWheel x = new FairWheel();
        PlainWheel y = new PlainWheel();
        fill(run, x, y);
        for (int person = 0; person < 8; person++) {
            due(run, "pebbles " + person, x.pebbles(person), y.pebbles(person));
            for (int what = 0; what < 3; what++) {
                due(run, "down " + person + " " + what, x.down(person, what), y.down(person, what));
            }
            for (int m = 0; m < 4; m++) {
                due(run, "chance " + person + " " + m, x.chance(person, m, 0), y.chance(person, m, 0));
                due(run, "chance " + person + " " + m, x.chance(person, m, 1), y.chance(person, m, 1));
            }
        }
        due(run, "brake", x.brake(), y.brake());
        drawBalance(run, x, y);
        int seed = draw(10000);
        int turns = 1 + draw(99);
        for (int car = -1; car < 8; car++) {
            due(run, "year " + seed + " " + turns + " " + car, x.year(seed, turns, car), y.year(seed, turns, car));
        }
        askTexts(run, x, y);
    }

    /** Who sits where and which pebbles are there is written car by car; the wheel is not let go for that. */
    private void fill(int run, FairWheel x, PlainWheel y) {
        for (int person = 0; person < 8; person++) {
            int v = draw(4) == 0 ? 1 + draw(99) : 5 + draw(12);
            due(run, "weigh " + person + " " + v, x.weigh(person, v), y.weigh(person, v));
        }
        int d = draw(3) == 0 ? draw(150) : draw(25);
        due(run, "drag " + d, x.drag(d), y.drag(d));
        StringBuilder text = new StringBuilder();
        StringBuilder left = new StringBuilder("ABCDEFGH");
        int taken = 1 + draw(8);
        for (int car = 0; car < 8; car++) {
            if (draw(8) < taken) {
                int i = draw(left.length());
                text.append(left.charAt(i));
                left.deleteCharAt(i);
            }
            text.append(draw(3) == 0 ? "" + draw(10) : "").append('>');
        }
        text.append(">".repeat(draw(8)));
        write(run, x, y, text.toString());
        due(run, "done", x.done(), y.done());
    }

    private void write(int run, FairWheel x, PlainWheel y, String text) {
        due(run, "wipe", x.wipe(), y.wipe());
        for (int i = 0; i < text.length(); i++) {
            due(run, "say", x.say(text.charAt(i)), y.say(text.charAt(i)));
        }
    }

    private void askTexts(int run, FairWheel x, PlainWheel y) {
        StringBuilder text = new StringBuilder();
        for (int tries = 0; tries < 60 && text.length() < 10; tries++) {
            char sign = SIGNS.charAt(draw(SIGNS.length()));
            write(run, x, y, text.toString());
            if (y.canBeWith(sign)) {
                text.append(sign);
            }
        }
        write(run, x, y, text.toString());
        for (int i = -1; i < text.length(); i++) {
            due(run, "leftOut " + i + " of " + text, x.leftOut(i), y.leftOut(i));
        }
        for (int what = 0; what < 3; what++) {
            due(run, "behind " + what + " " + text, x.behind(what), y.behind(what));
            for (int car = 0; car < 8; car++) {
                int person = draw(8);
                due(run, "could " + person + " " + car + " " + what + " of " + text, x.could(person, car, what),
                        y.could(person, car, what));
            }
        }
        askFilled(run, x, y, text.toString());
    }

    /** The letters of a text that can be are asked for, and behind it people are seen where they are. */
    private void askFilled(int run, FairWheel x, PlainWheel y, String text) {
        StringBuilder asking = new StringBuilder(text);
        for (int i = 0, asked = 0; i < text.length() && asked < 3; i++) {
            if (text.charAt(i) >= 'A' && text.charAt(i) <= 'H' && draw(4) > 0) {
                asking.setCharAt(i, '?');
                asked++;
            }
        }
        int sights = draw(4);
        for (int i = 0; i < sights; i++) {
            int car = draw(8);
            int person = y.whoIsBehind(car);
            if (person >= 0) {
                due(run, "seen", x.seen(person, car), y.seen(person, car));
            }
        }
        write(run, x, y, asking.toString());
        for (int i = -1; i < 4; i++) {
            due(run, "filled " + i + " of " + asking, x.filled(i), y.filled(i));
        }
    }

    /** A text with a few that are not told, and sights that are mostly so. */
    private int drawFilled(int run, FairWheel x, PlainWheel y) {
        String[] texts = {"?", "?>?", "?^>?^", "A>?>^?", "?>>?>^>?^", "5?>^?", "??", "?a>?^", "?>?>?>?", "?<B<?^<?",
            "^?^>?^>?^"};
        String text = texts[draw(texts.length)];
        write(run, x, y, text);
        due(run, "forget", x.forget(), y.forget());
        int seen = draw(4) == 0 ? 7 : draw(3);
        for (int i = 0; i < seen; i++) {
            int person = draw(8);
            int car = draw(8);
            due(run, "seen", x.seen(person, car), y.seen(person, car));
        }
        for (int i = -2; i < 4; i++) {
            due(run, "filled " + i + " of " + text, x.filled(i), y.filled(i));
        }
        return text.length() + seen + 8;
    }

    private static int due(int run, String call, long got, long want) {
        Check.due("run " + run + ": " + call, got, want);
        return 1;
    }
}
