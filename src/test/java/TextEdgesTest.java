/**
 * The edges of a TEXT on a PAD, THE FAULT, JUDGED, DONE, BEHIND and LEFT OUT (DOC.md, Terms 1 and 2, promises 4 to 8,
 * 12 and 13). Above each test stands the sentence that it is for.
 */
public final class TextEdgesTest {
    private static final int NONE = FairWheel.NONE;
    private static final int FAR = Integer.MAX_VALUE, FAR_BELOW = Integer.MIN_VALUE;
    private static final String STANDING = "ABCDEFGHabcdefgh0123456789^><?";
    private static final String NINES = "9".repeat(11);

    private TextEdgesTest() {
    }

    public static void main(String[] args) {
        codesAtBothEnds();
        sixtySigns();
        wipeAtBothEnds();
        signsThatCanStand();
        faultAtBothEnds();
        threeAskedAtMost();
        faultIsOfThePadAlone();
        judgedOfAnEmptyAndAFullText();
        judgedTheFirstEvent();
        gettingIn();
        gettingInTheLeastReason();
        gettingOut();
        pebblesUpTo99();
        pebblesOfEachCar();
        pebblesAreNoPeople();
        judgeRefuses();
        doneOfAnEmptyAndAFullText();
        doneLeavesTheTextWhenRefused();
        doneGoesOnFromTheLast();
        behindAnEmptyAndAFullText();
        behindCountsOnLessBack();
        behindRefuses();
        leftOutAtBothEnds();
        leftOutOfAnEmptyAndAFullText();
        leftOutNeverMotions();
        leftOutTheOthersCanAllBe();
        leftOutTheSameCar();
        leftOutRefuses();
        Check.end();
    }

    /** "codes 33 to 126" */
    private static void codesAtBothEnds() {
        FairWheel x = new FairWheel();
        for (int code : new int[] {FAR_BELOW, -1, 0, 31, 32, 127, 128, 255, 65 + 256, 65 + 65536, FAR}) {
            Check.due("code " + code, x.say(code), FairWheel.OUTSIDE);
            Check.due("nothing is said", x.told(0), 0);
        }
        Check.due("code 33", x.say(33), 1);
        Check.due("code 126", x.say(126), 2);
        Check.due("code 32", x.say(32), FairWheel.OUTSIDE);
        Check.due("code 127", x.say(127), FairWheel.OUTSIDE);
        Check.due("two are said", x.wipe(), 2);
        for (int code = 33; code <= 126; code++) {
            Check.due("code " + code, new FairWheel().say(code), 1);
        }
    }

    /** "a PAD (60 SIGNS at most" and promise 4: "A sign more: how many. OUTSIDE; FULL." */
    private static void sixtySigns() {
        FairWheel x = new FairWheel();
        for (int i = 1; i <= 60; i++) {
            Check.due("sign " + i, x.say('>'), i);
            Check.due("told", x.told(0), i);
        }
        Check.due("sign 61", x.say('>'), FairWheel.FULL);
        Check.due("sign 61 again", x.say('!'), FairWheel.FULL);
        Check.due("outside ahead of full", x.say(32), FairWheel.OUTSIDE);
        Check.due("outside ahead of full", x.say(127), FairWheel.OUTSIDE);
        Check.due("60 stay", x.told(0), 60);
        Check.due("none of those is there", x.fault(), NONE);
        Check.due("they are those that were said", x.behind(0), 4);
        Check.due("they go", x.wipe(), 60);
        Check.due("there is room", x.say('<'), 1);
        Check.due("for others", x.behind(0), 7);
    }

    /** Promise 5: "Signs go: how many there were." */
    private static void wipeAtBothEnds() {
        FairWheel x = new FairWheel();
        Check.due("none", x.wipe(), 0);
        Check.due("none again", x.wipe(), 0);
        x.say('A');
        Check.due("one", x.wipe(), 1);
        Check.due("none is told", x.told(0), 0);
        Check.write(x, "?".repeat(60));
        Check.due("sixty", x.wipe(), 60);
        Check.due("no fault", x.fault(), NONE);
        Check.due("no event", x.behind(0), 0);
        Check.write(x, "???");
        Check.due("what was asked before does not count", x.fault(), NONE);
    }

    /** "THE FAULT: the place of the first sign that can not stand there." Promise 6: "THE FAULT; NONE." */
    private static void signsThatCanStand() {
        for (int code = 33; code <= 126; code++) {
            boolean stands = STANDING.indexOf(code) >= 0;
            FairWheel x = Check.write(new FairWheel(), "" + (char) code);
            Check.due("code " + code + " alone", x.fault(), stands ? NONE : 0);
            Check.write(x, ">>" + (char) code + ">");
            Check.due("code " + code + " among others", x.fault(), stands ? NONE : 2);
            Check.write(x, "<".repeat(59) + (char) code);
            Check.due("code " + code + " at the end", x.fault(), stands ? NONE : 59);
        }
    }

    private static void faultIs(String text, int fault) {
        Check.due("fault of " + text, Check.write(new FairWheel(), text).fault(), fault);
    }

    /** "the first sign that can not stand there" */
    private static void faultAtBothEnds() {
        faultIs("", NONE);
        faultIs("!", 0);
        faultIs("!>", 0);
        faultIs("!!", 0);
        faultIs(">!", 1);
        faultIs("A!B~", 1);
        faultIs("I", 0);
        faultIs("i", 0);
        faultIs("@", 0);
        faultIs("`", 0);
        faultIs("/", 0);
        faultIs(":", 0);
        faultIs("=", 0);
        faultIs("]", 0);
        faultIs("_", 0);
        faultIs(">".repeat(59) + "=", 59);
        faultIs(">".repeat(60), NONE);
        faultIs("=".repeat(60), 0);
    }

    /** "? (one gets in who is not told; 3 at most)" */
    private static void threeAskedAtMost() {
        faultIs("?", NONE);
        faultIs("??", NONE);
        faultIs("???", NONE);
        faultIs("????", 3);
        faultIs("?????", 3);
        faultIs("?>?>?>>>?", 8);
        faultIs("?>?>?>>>!?", 8);
        faultIs("???" + ">".repeat(56) + "?", 59);
        faultIs(">".repeat(57) + "???", NONE);
        faultIs(">".repeat(56) + "????", 59);
        faultIs("????!", 3);
        faultIs("???!?", 3);
        faultIs("!????", 0);
    }

    /** The fault is of the signs; whether an EVENT can be does not matter, nor who is on the wheel. */
    private static void faultIsOfThePadAlone() {
        faultIs("aAAB" + NINES + "9", NONE);
        FairWheel x = Check.told("A" + NINES);
        Check.write(x, "A9b?");
        Check.due("none", x.fault(), NONE);
        x.say('x');
        Check.due("the fifth", x.fault(), 4);
        Check.due("the text stays", x.told(0), 5);
    }

    private static void judged(FairWheel x, String text, int event, int why) {
        Check.write(x, text);
        Check.due("event of " + text, x.judge(0), event);
        Check.due("why of " + text, x.judge(1), why);
        Check.due("the text stays", x.told(0), text.length());
    }

    private static void judgedAtFirst(String text, int event, int why) {
        judged(new FairWheel(), text, event, why);
    }

    /** Promise 7: "JUDGED: the EVENT (what = 0), why (1); NONE." */
    private static void judgedOfAnEmptyAndAFullText() {
        judgedAtFirst("", NONE, NONE);
        judgedAtFirst(">".repeat(60), NONE, NONE);
        judgedAtFirst("Aa".repeat(30), NONE, NONE);
        judgedAtFirst("Aa".repeat(29) + "Ab", 59, 3);
        judgedAtFirst(">".repeat(59) + "h", 59, 3);
        judgedAtFirst("h" + ">".repeat(59), 0, 3);
    }

    /** "of a TEXT without ? the first EVENT that can not be, and why" "EVENTS are its signs, from 0 on." */
    private static void judgedTheFirstEvent() {
        judgedAtFirst("aAA", 0, 3);
        judgedAtFirst("AAa", 1, 1);
        judgedAtFirst("ABA", 1, 2);
        judgedAtFirst("A" + NINES + "1A", 12, 4);
        judgedAtFirst("A^^^0a>>b", 8, 3);
    }

    /** "A to H (gets into the CAR at THE FOOT)": each of the eight, at each of the eight cars. */
    private static void gettingIn() {
        for (int person = 0; person < 8; person++) {
            char in = (char) ('A' + person);
            char out = (char) ('a' + person);
            judgedAtFirst("" + in, NONE, NONE);
            judgedAtFirst("" + in + in, 1, 1);
            judgedAtFirst("" + in + out + in + out, NONE, NONE);
            judgedAtFirst("" + out, 0, 3);
            for (int car = 0; car < 8; car++) {
                FairWheel x = Check.told(">".repeat(car) + in);
                Check.due("in the car", x.told(20 + person), car);
                Check.due("the car has him", x.car(car, 0), person);
                Check.due("taken", x.told(3), 1 << car);
                Check.tell(x, "" + out);
                Check.due("out of the car", x.told(20 + person), NONE);
                Check.due("the car has nobody", x.car(car, 0), NONE);
            }
        }
        FairWheel full = Check.told("H<G<F<E<D<C<B<A");
        Check.due("a full wheel", full.told(3), 255);
        for (int person = 0; person < 8; person++) {
            judged(full, "" + (char) ('A' + person), 0, 1);
        }
    }

    /** "for the least of these reasons: 1 who gets in is on the wheel, 2 the CAR at THE FOOT is taken" */
    private static void gettingInTheLeastReason() {
        judgedAtFirst("AA", 1, 1);
        judgedAtFirst("A>A", 2, 1);
        judgedAtFirst("A<A", 2, 1);
        judgedAtFirst("AB", 1, 2);
        judgedAtFirst("A>BA", 3, 1);
        judgedAtFirst("A<BA", 3, 1);
        judgedAtFirst("A>BC", 3, 2);
        judgedAtFirst("A>B<B", 4, 1);
        judgedAtFirst("A>>>>>>>>B", 9, 2);
    }

    /** "3 who gets out is not in the CAR at THE FOOT" */
    private static void gettingOut() {
        judgedAtFirst("a", 0, 3);
        judgedAtFirst("9a", 1, 3);
        judgedAtFirst("A>a", 2, 3);
        judgedAtFirst("A<a", 2, 3);
        judgedAtFirst("Ab", 1, 3);
        judgedAtFirst("A>Ba", 3, 3);
        judgedAtFirst("Aaa", 2, 3);
        judgedAtFirst("A>>>>>>>>a", NONE, NONE);
        judgedAtFirst("A<<<<<<<<a", NONE, NONE);
        judgedAtFirst("A>^a", NONE, NONE);
        judgedAtFirst("A<^a", NONE, NONE);
    }

    /** "4 a CAR would have more than 99 PEBBLES" */
    private static void pebblesUpTo99() {
        judgedAtFirst(NINES, NONE, NONE);
        judgedAtFirst(NINES + "1", 11, 4);
        judgedAtFirst(NINES + "9", 11, 4);
        judgedAtFirst(NINES + "0", NONE, NONE);
        judgedAtFirst(NINES + "0" + NINES, NONE, NONE);
        judgedAtFirst(NINES + "0" + NINES + "1", 23, 4);
        judgedAtFirst("0", NONE, NONE);
        judgedAtFirst("00", NONE, NONE);
        FairWheel x = Check.told("9".repeat(10));
        for (int more = 1; more <= 9; more++) {
            judged(x, "" + more, NONE, NONE);
        }
        Check.tell(x, "1");
        for (int more = 1; more <= 9; more++) {
            judged(x, "" + more, more == 9 ? 0 : NONE, more == 9 ? 4 : NONE);
        }
        Check.tell(x, "8");
        Check.due("99", x.car(0, 1), 99);
        for (int more = 1; more <= 9; more++) {
            judged(x, "" + more, 0, 4);
        }
        Check.tell(x, "0");
        Check.due("all are taken out", x.car(0, 1), 0);
    }

    /** "are put into the CAR at THE FOOT": each car has its own 99. */
    private static void pebblesOfEachCar() {
        FairWheel x = new FairWheel();
        for (int car = 0; car < 8; car++) {
            Check.tell(x, NINES + ">");
        }
        for (int car = 0; car < 8; car++) {
            Check.due("pebbles of " + car, x.car(car, 1), 99);
            judged(x, "1", 0, 4);
            judged(x, ">0<1", 3, 4);
            judged(x, "01", NONE, NONE);
            Check.tell(x, "<");
        }
        Check.tell(x, "<0");
        Check.due("the others stay", x.car(0, 1), 99);
        Check.due("the others stay", x.car(6, 1), 99);
        Check.due("all its pebbles", x.car(7, 1), 0);
        x = new FairWheel();
        for (int more = 1; more <= 9; more++) {
            int before = x.car(0, 1);
            Check.tell(x, "" + more);
            Check.due("so many more", x.car(0, 1), before + more);
        }
    }

    /** "a CAR holds one of them, or nobody, and PEBBLES" */
    private static void pebblesAreNoPeople() {
        judgedAtFirst("5A", NONE, NONE);
        judgedAtFirst("A5", NONE, NONE);
        judgedAtFirst(NINES + "Aa", NONE, NONE);
        judgedAtFirst("A" + NINES + "1", 12, 4);
        FairWheel x = Check.told(NINES + "A");
        Check.due("both", x.car(0, 0), 0);
        Check.due("both", x.car(0, 1), 99);
        Check.tell(x, "a");
        Check.due("pebbles stay", x.car(0, 1), 99);
        Check.due("and take no car", x.told(3), 0);
        Check.tell(x, "B0");
        Check.due("people stay", x.car(0, 0), 1);
        Check.due("without pebbles", x.car(0, 1), 0);
    }

    /** Promise 7: "OUTSIDE; NO: there is a FAULT; STATE: there is some ?." */
    private static void judgeRefuses() {
        for (String text : new String[] {"", "!", "?", "?!", "!?", "AA", "AA?"}) {
            FairWheel x = Check.write(new FairWheel(), text);
            for (int what : new int[] {FAR_BELOW, -1, 2, 3, FAR}) {
                Check.due("judge " + what + " of " + text, x.judge(what), FairWheel.OUTSIDE);
            }
            boolean fault = text.indexOf('!') >= 0;
            for (int what = 0; what < 2 && (fault || text.indexOf('?') >= 0); what++) {
                Check.due("judge " + what + " of " + text, x.judge(what), fault ? FairWheel.NO : FairWheel.STATE);
            }
            Check.due("the text stays", x.told(0), text.length());
        }
        FairWheel x = Check.write(new FairWheel(), "?>?>?>?");
        Check.due("the fourth ? is a fault", x.judge(0), FairWheel.NO);
        Check.write(x, "?>?>?");
        Check.due("three are not", x.judge(1), FairWheel.STATE);
        Check.write(x, "AB!");
        Check.due("a fault behind an event that can not be", x.judge(0), FairWheel.NO);
    }

    /** Promise 8: "The TEXT on the PAD is DONE (it is empty then ..): EVENTS." */
    private static void doneOfAnEmptyAndAFullText() {
        FairWheel x = new FairWheel();
        Check.due("an empty text", x.done(), 0);
        Check.due("the foot stays", x.foot(), 0);
        Check.due("nobody got in", x.told(3), 0);
        Check.write(x, "A" + ">".repeat(59));
        Check.due("a full text", x.done(), 60);
        Check.due("the pad is empty", x.told(0), 0);
        Check.due("all of it is done", x.foot(), 3);
        Check.due("from its first event", x.told(20), 0);
        Check.due("it is not done again", x.done(), 0);
        Check.due("the foot stays", x.foot(), 3);
        Check.write(x, "^");
        Check.due("one event", x.done(), 1);
        Check.due("a sign more", x.say('>'), 1);
    }

    private static void doneRefused(FairWheel x, String text, int refusal) {
        int foot = x.foot();
        int taken = x.told(3);
        Check.write(x, text);
        Check.due("done of " + text, x.done(), refusal);
        Check.due("the signs stay", x.told(0), text.length());
        Check.due("the foot stays", x.foot(), foot);
        Check.due("all stay in their cars", x.told(3), taken);
        Check.due("refused again", x.done(), refusal);
    }

    /** "it stays when the call is refused" "NO: there is a FAULT, or (without ?) an EVENT that can not be; STATE" */
    private static void doneLeavesTheTextWhenRefused() {
        FairWheel x = Check.told("A>");
        doneRefused(x, "!", FairWheel.NO);
        doneRefused(x, ">B!", FairWheel.NO);
        doneRefused(x, "?!", FairWheel.NO);
        doneRefused(x, "????", FairWheel.NO);
        doneRefused(x, "AA!", FairWheel.NO);
        doneRefused(x, ">BA", FairWheel.NO);
        doneRefused(x, ">BC", FairWheel.NO);
        doneRefused(x, ">Bc", FairWheel.NO);
        doneRefused(x, ">" + NINES + "1", FairWheel.NO);
        doneRefused(x, "?", FairWheel.STATE);
        doneRefused(x, ">B?", FairWheel.STATE);
        doneRefused(x, "AA?", FairWheel.STATE);
        doneRefused(x, "???", FairWheel.STATE);
        doneRefused(x, ">".repeat(59) + "A", FairWheel.NO);
        doneRefused(x, ">".repeat(59) + "?", FairWheel.STATE);
        Check.due("no pebbles are left", x.car(2, 1), 0);
        Check.write(x, "<a");
        Check.due("then one that can be", x.done(), 2);
        Check.due("A is out", x.told(3), 0);
    }

    private static void doneGoesOnFromTheLast() {
        FairWheel x = Check.told(NINES);
        Check.write(x, "1");
        Check.due("pebbles of before count", x.done(), FairWheel.NO);
        Check.tell(x, ">A");
        Check.write(x, "B");
        Check.due("so do people", x.done(), FairWheel.NO);
        Check.tell(x, "a");
        Check.tell(x, "B");
        Check.due("B is there", x.told(21), 1);
    }

    private static void cameTo(FairWheel x, String text, int foot, int pull, int turned) {
        Check.write(x, text);
        Check.due("foot behind " + text, x.behind(0), foot);
        Check.due("pull behind " + text, x.behind(1), 1000000 + pull);
        Check.due("turned behind " + text, x.behind(2), 1000 + turned);
        Check.due("the text stays", x.told(0), text.length());
    }

    /** Promise 12: "BEHIND: the CAR (what = 0), PULL and 1000000 (1), turned by, and 1000 (2)." */
    private static void behindAnEmptyAndAFullText() {
        FairWheel x = new FairWheel();
        cameTo(x, "", 0, 0, 0);
        cameTo(x, ">".repeat(60), 4, 0, 0);
        cameTo(x, "<".repeat(60), 4, 0, 0);
        cameTo(x, "A" + "<".repeat(59), 5, 70, 0);
        Check.tell(x, ">>A<");
        cameTo(x, "", 1, 70, 0);
        cameTo(x, "^", 2, 0, 1);
        Check.due("it is not done", x.foot(), 1);
    }

    /** "by how many CARS it has turned in all when it was LET GO (on less back; pushes do not count)" */
    private static void behindCountsOnLessBack() {
        FairWheel x = new FairWheel();
        cameTo(x, "A" + "<<<^".repeat(14), 0, 0, 42);
        cameTo(x, "A" + ">>>^".repeat(14), 0, 0, -42);
        cameTo(x, "A" + "<<<^>>>^".repeat(7), 0, 0, 0);
        cameTo(x, "A<<^>^", 0, 0, 1);
        cameTo(x, "A<^>>^", 0, 0, -1);
        cameTo(x, "A>>>>^^^^", 4, 0, 0);
        cameTo(x, "A<<<<<^", 0, 0, -3);
        cameTo(x, "A>>>>>^", 0, 0, 3);
    }

    /** Promise 12: "OUTSIDE; NO, STATE, as of done()." */
    private static void behindRefuses() {
        for (String text : new String[] {"", "!", "?", "?!", "AA", "AA?"}) {
            FairWheel x = Check.write(new FairWheel(), text);
            for (int what : new int[] {FAR_BELOW, -1, 3, 4, FAR}) {
                Check.due("behind " + what + " of " + text, x.behind(what), FairWheel.OUTSIDE);
            }
        }
        for (int what = 0; what < 3; what++) {
            FairWheel x = Check.write(new FairWheel(), "?!");
            Check.due("a fault", x.behind(what), FairWheel.NO);
            Check.write(x, "AA?");
            Check.due("some ?", x.behind(what), FairWheel.STATE);
            Check.write(x, "AA");
            Check.due("an event that can not be", x.behind(what), FairWheel.NO);
            Check.write(x, ">".repeat(59) + "a");
            Check.due("the last event", x.behind(what), FairWheel.NO);
            Check.due("the text stays", x.told(0), 60);
        }
    }

    private static void leftOutAre(FairWheel x, String text, int... events) {
        Check.write(x, text);
        Check.due("how many of " + text, x.leftOut(-1), events.length);
        for (int i = 0; i < events.length; i++) {
            Check.due(i + "-th of " + text, x.leftOut(i), events[i]);
        }
        Check.due("beyond the last of " + text, x.leftOut(events.length), NONE);
        Check.due("the text stays", x.told(0), text.length());
    }

    private static void leftOutAtFirst(String text, int... events) {
        leftOutAre(new FairWheel(), text, events);
    }

    /** Promise 13: "how many (i = -1), the i-th; NONE (i below -1, too)" */
    private static void leftOutAtBothEnds() {
        for (String text : new String[] {"", ">", "A5a", "9".repeat(5)}) {
            FairWheel x = Check.write(new FairWheel(), text);
            for (int i : new int[] {FAR_BELOW, -3, -2, 5, 60, 61, FAR}) {
                Check.due("leftOut " + i + " of " + text, x.leftOut(i), NONE);
            }
        }
    }

    private static void leftOutOfAnEmptyAndAFullText() {
        leftOutAtFirst("");
        leftOutAtFirst("A", 0);
        int[] all = new int[60];
        for (int i = 0; i < 60; i++) {
            all[i] = i;
        }
        leftOutAtFirst("0".repeat(60), all);
        leftOutAtFirst(">".repeat(59) + "H", 59);
        leftOutAtFirst("H" + ">".repeat(59), 0);
    }

    /** "EVENTS (but ^, >, <)" */
    private static void leftOutNeverMotions() {
        leftOutAtFirst("^");
        leftOutAtFirst("><^");
        leftOutAtFirst(">".repeat(60));
        leftOutAtFirst("<".repeat(8) + "^".repeat(52));
        leftOutAtFirst("^A^", 1);
        leftOutAtFirst("><0><", 2);
    }

    /** "without each of which alone the others can all be": each of the four reasons hinders. */
    private static void leftOutTheOthersCanAllBe() {
        leftOutAtFirst("AaA", 2);
        leftOutAtFirst("AaB", 2);
        leftOutAtFirst("Aa", 1);
        leftOutAtFirst("A>B<aC", 2, 5);
        // without the 0 there would be 99 pebbles, then 100
        leftOutAtFirst("90" + "9".repeat(10), 0, 1, 2, 3, 4, 5, 6, 7, 8, 9, 10, 11);
        leftOutAtFirst("910" + "9".repeat(10), 0, 1, 3, 4, 5, 6, 7, 8, 9, 10, 11, 12);
        FairWheel x = Check.told("A>");
        leftOutAre(x, "<a", 1);
        leftOutAre(x, "<aB", 2);
        leftOutAre(x, "<a>A", 3);
    }

    /** "and the same CAR is at THE FOOT behind it" */
    private static void leftOutTheSameCar() {
        leftOutAtFirst("A>^");
        leftOutAtFirst("A<^");
        leftOutAtFirst("A2>^", 1);
        leftOutAtFirst("A3>^", 0, 1);
        leftOutAtFirst("A<^9", 3);
        leftOutAtFirst("A<<<^aB<<", 6);
        leftOutAtFirst("Aa<<^");
        leftOutAtFirst("Aa<<<<^", 1);
    }

    /** Promise 13: "NO, STATE, likewise." */
    private static void leftOutRefuses() {
        for (int i : new int[] {FAR_BELOW, -2, -1, 0, 1, 60, FAR}) {
            FairWheel x = Check.write(new FairWheel(), "?!");
            Check.due("a fault", x.leftOut(i), FairWheel.NO);
            Check.write(x, "AA?");
            Check.due("some ?", x.leftOut(i), FairWheel.STATE);
            Check.write(x, "AA");
            Check.due("an event that can not be", x.leftOut(i), FairWheel.NO);
            Check.due("the text stays", x.told(0), 2);
        }
    }
}
