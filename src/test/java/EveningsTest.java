/** Promises 7 to 13: judge, done, foot, car, pull, behind, leftOut. */
public final class EveningsTest {
    private EveningsTest() {
    }

    public static void main(String[] args) {
        judge();
        judgeRefuses();
        done();
        doneRefuses();
        foot();
        letGo();
        letGoIsHeldAtTheDrag();
        letGoKeepsToItsSide();
        car();
        pull();
        behind();
        behindRefuses();
        leftOut();
        leftOutKeepsTheFoot();
        leftOutRefuses();
        Check.end();
    }

    private static void judged(FairWheel x, String text, int event, int why) {
        Check.write(x, text);
        Check.due("event of " + text, x.judge(0), event);
        Check.due("why of " + text, x.judge(1), why);
        Check.due("the text stays", x.told(0), text.length());
    }

    /** Promise 7. */
    private static void judge() {
        FairWheel x = new FairWheel();
        judged(x, "", FairWheel.NONE, FairWheel.NONE);
        judged(x, "A>B>Cc", FairWheel.NONE, FairWheel.NONE);
        judged(x, "A>B>C^c", 6, 3);
        judged(x, "A>A", 2, 1);
        judged(x, "AA", 1, 1);
        judged(x, "AB", 1, 2);
        judged(x, "a", 0, 3);
        judged(x, "Ab", 1, 3);
        judged(x, "A>a", 2, 3);
        judged(x, "A><aB", FairWheel.NONE, FairWheel.NONE);
        judged(x, "AaA", FairWheel.NONE, FairWheel.NONE);
        judged(x, "99999999999", FairWheel.NONE, FairWheel.NONE);
        judged(x, "999999999991", 11, 4);
        judged(x, "999999999990999999999999", 23, 4);
        judged(x, "99999999999>9<9", 14, 4);
        judged(x, "0A5a6B", FairWheel.NONE, FairWheel.NONE);
        judged(x, "A>>a>A", 3, 3);
        Check.due("nobody got in", x.told(3), 0);
        Check.tell(x, "A>");
        judged(x, "BA", 1, 1);
        judged(x, "<a>A", FairWheel.NONE, FairWheel.NONE);
    }

    private static void judgeRefuses() {
        FairWheel x = Check.write(new FairWheel(), "?!");
        Check.due("what 2", x.judge(2), FairWheel.OUTSIDE);
        Check.due("what -1", x.judge(-1), FairWheel.OUTSIDE);
        Check.due("a fault ahead of a ?", x.judge(0), FairWheel.NO);
        Check.due("a fault", x.judge(1), FairWheel.NO);
        Check.write(x, "AA?");
        Check.due("some ?, though an event can not be", x.judge(0), FairWheel.STATE);
        Check.due("some ?", x.judge(1), FairWheel.STATE);
        Check.due("the text stays", x.told(0), 3);
    }

    /** Promise 8. */
    private static void done() {
        FairWheel x = new FairWheel();
        Check.due("of nothing", x.done(), 0);
        Check.write(x, "A5>B");
        Check.due("four events", x.done(), 4);
        Check.due("the pad is empty", x.told(0), 0);
        Check.due("A is there", x.car(0, 0), 0);
        Check.due("five pebbles are", x.car(0, 1), 5);
        Check.due("B is there", x.car(1, 0), 1);
        Check.due("car 1 is at the foot", x.foot(), 1);
        Check.tell(x, "b<03a3");
        Check.due("B got out", x.told(21), FairWheel.NONE);
        Check.due("A got out", x.told(20), FairWheel.NONE);
        Check.due("0 takes all pebbles out", x.car(0, 1), 6);
        Check.due("nobody is left", x.told(3), 0);
    }

    private static void doneRefuses() {
        FairWheel x = Check.write(new FairWheel(), "A>A");
        Check.due("an event that can not be", x.done(), FairWheel.NO);
        Check.due("the text stays", x.told(0), 3);
        Check.due("nobody got in", x.told(3), 0);
        Check.due("it was not pushed", x.foot(), 0);
        Check.write(x, "A?");
        Check.due("some ?", x.done(), FairWheel.STATE);
        Check.due("the text stays", x.told(0), 2);
        Check.write(x, "AA?");
        Check.due("some ? and an event that can not be", x.done(), FairWheel.STATE);
        Check.write(x, "A?~");
        Check.due("a fault", x.done(), FairWheel.NO);
        Check.due("the text stays", x.told(0), 3);
        Check.due("nobody got in", x.told(20), FairWheel.NONE);
    }

    /** Promise 9. */
    private static void foot() {
        FairWheel x = Check.told(">");
        Check.due("one on", x.foot(), 1);
        Check.tell(x, "<<");
        Check.due("one back of 0", x.foot(), 7);
        Check.tell(x, ">");
        Check.due("one on of 7", x.foot(), 0);
        Check.write(x, ">>");
        Check.due("what is not done does not count", x.foot(), 0);
    }

    private static void letGo() {
        FairWheel x = Check.told("A>^");
        Check.due("back from the place 7", x.foot(), 0);
        Check.tell(x, "<^");
        Check.due("on from the place 1", x.foot(), 0);
        Check.tell(x, "<<<^");
        Check.due("on from the place 3, over three cars", x.foot(), 0);
        Check.tell(x, ">>>>^");
        Check.due("it stands with him at the top", x.foot(), 4);
        Check.tell(x, ">^");
        Check.due("on from car 5 over 7 to 0", x.foot(), 0);
    }

    private static void letGoIsHeldAtTheDrag() {
        FairWheel x = Check.told("A<");
        Check.due("pull 70", x.pull(), 1000070);
        x.drag(70);
        Check.tell(x, "^");
        Check.due("drag 70 holds it", x.foot(), 7);
        x.drag(69);
        Check.tell(x, "^");
        Check.due("drag 69 does not", x.foot(), 0);
        Check.tell(x, ">");
        x.drag(70);
        Check.tell(x, "^");
        Check.due("drag 70 holds it the other way", x.foot(), 1);
        x.drag(69);
        Check.tell(x, "^");
        Check.due("drag 69 does not", x.foot(), 0);
        x.drag(99);
        Check.tell(x, "<<^");
        Check.due("pull 100 is above 99, 70 behind is not", x.foot(), 7);
    }

    /** Where the pull comes to the other side it is held, though it would turn back. */
    private static void letGoKeepsToItsSide() {
        FairWheel x = new FairWheel();
        x.weigh(0, 10);
        x.weigh(1, 11);
        x.drag(0);
        Check.tell(x, "A>>>>>B");
        Check.tell(x, "<");
        // from car 4: A at the place 4, B at 1: on; from car 5: A at 3, B at 0: on; from 6: A at 2, B at 7: on
        // from 7: A at 1, B at 6: -40, which is the other side, so it is held
        Check.tell(x, "^");
        Check.due("held at the first car of the other side", x.foot(), 7);
        Check.due("though it pulls", x.pull(), 1000000 + 70 - 110);
        Check.tell(x, "^");
        Check.due("let go once more it turns back one and is held", x.foot(), 6);
    }

    /** Promise 10. */
    private static void car() {
        FairWheel x = Check.told("A>>B57<");
        Check.due("who in 0", x.car(0, 0), 0);
        Check.due("who in 2", x.car(2, 0), 1);
        Check.due("who in 1", x.car(1, 0), FairWheel.NONE);
        Check.due("pebbles in 2", x.car(2, 1), 12);
        Check.due("pebbles in 0", x.car(0, 1), 0);
        Check.due("place of 1", x.car(1, 2), 0);
        Check.due("place of 2", x.car(2, 2), 1);
        Check.due("place of 0", x.car(0, 2), 7);
        Check.due("place of 7", x.car(7, 2), 6);
        Check.due("car 8", x.car(8, 0), FairWheel.UNKNOWN);
        Check.due("car -1", x.car(-1, 0), FairWheel.UNKNOWN);
        Check.due("unknown ahead of outside", x.car(8, 3), FairWheel.UNKNOWN);
        Check.due("what 3", x.car(0, 3), FairWheel.OUTSIDE);
        Check.due("what -1", x.car(0, -1), FairWheel.OUTSIDE);
    }

    /** Promise 11. */
    private static void pull() {
        int[] arms = {0, 7, 10, 7, 0, -7, -10, -7};
        FairWheel x = new FairWheel();
        for (int place = 0; place < 8; place++) {
            Check.tell(x, "A" + "<".repeat(place));
            Check.due("A at the place " + place, x.pull(), 1000000 + 10 * arms[place]);
            Check.tell(x, ">".repeat(place) + "a");
        }
        Check.tell(x, ">9<");
        Check.due("pebbles alone", x.pull(), 1000063);
        Check.tell(x, ">A>B<<");
        Check.due("together", x.pull(), 1000000 + 19 * 7 + 10 * 10);
        Check.tell(x, ">".repeat(4));
        Check.due("turned by half", x.pull(), 1000000 - 19 * 7 - 10 * 10);
    }

    private static void cameTo(FairWheel x, String text, int foot, int pull, int turned) {
        Check.write(x, text);
        Check.due("foot behind " + text, x.behind(0), foot);
        Check.due("pull behind " + text, x.behind(1), 1000000 + pull);
        Check.due("turned behind " + text, x.behind(2), 1000 + turned);
        Check.due("the text stays", x.told(0), text.length());
    }

    /** Promise 12. */
    private static void behind() {
        FairWheel x = new FairWheel();
        cameTo(x, "", 0, 0, 0);
        cameTo(x, "A>", 1, -70, 0);
        cameTo(x, "A>^", 0, 0, -1);
        cameTo(x, "A>>>^", 0, 0, -3);
        cameTo(x, "A<<<^", 0, 0, 3);
        cameTo(x, "A<<<^>^", 0, 0, 2);
        cameTo(x, "A<^<^<<^", 0, 0, 4);
        cameTo(x, "A>>5<<", 0, 50, 0);
        Check.due("nobody got in", x.told(3), 0);
        Check.tell(x, "A<");
        cameTo(x, "^", 0, 0, 1);
        Check.due("it was not let go", x.foot(), 7);
    }

    private static void behindRefuses() {
        FairWheel x = Check.write(new FairWheel(), "!?");
        Check.due("what 3", x.behind(3), FairWheel.OUTSIDE);
        Check.due("what -1", x.behind(-1), FairWheel.OUTSIDE);
        Check.due("a fault", x.behind(0), FairWheel.NO);
        Check.write(x, "aa?");
        Check.due("some ?", x.behind(1), FairWheel.STATE);
        Check.write(x, "Ab");
        Check.due("an event that can not be", x.behind(2), FairWheel.NO);
        Check.due("the text stays", x.told(0), 2);
    }

    private static void leftOutAre(FairWheel x, String text, int... events) {
        Check.write(x, text);
        Check.due("how many of " + text, x.leftOut(-1), events.length);
        for (int i = 0; i < events.length; i++) {
            Check.due(i + "-th of " + text, x.leftOut(i), events[i]);
        }
        Check.due("beyond the last of " + text, x.leftOut(events.length), FairWheel.NONE);
        Check.due("below -1", x.leftOut(-2), FairWheel.NONE);
        Check.due("far below", x.leftOut(Integer.MIN_VALUE), FairWheel.NONE);
        Check.due("far beyond", x.leftOut(Integer.MAX_VALUE), FairWheel.NONE);
        Check.due("the text stays", x.told(0), text.length());
    }

    /** Promise 13. */
    private static void leftOut() {
        FairWheel x = new FairWheel();
        leftOutAre(x, "");
        leftOutAre(x, "A", 0);
        leftOutAre(x, "Aa", 1);
        leftOutAre(x, "AaA", 2);
        leftOutAre(x, "A5a", 1, 2);
        leftOutAre(x, "^><");
        leftOutAre(x, "50>A", 0, 1, 3);
        leftOutAre(x, "999999999990999", 0, 1, 2, 3, 4, 5, 6, 7, 8, 9, 10, 12, 13, 14);
        Check.due("nobody got in", x.told(3), 0);
        Check.tell(x, "A>");
        leftOutAre(x, "<a>B", 1, 3);
    }

    private static void leftOutKeepsTheFoot() {
        FairWheel x = new FairWheel();
        // without A the wheel stands at car 1 instead of turning back to 0
        leftOutAre(x, "A>^");
        leftOutAre(x, "A2>^", 1);
        leftOutAre(x, "A3>^", 0, 1);
        leftOutAre(x, "4>^");
        leftOutAre(x, "31>^", 1);
    }

    private static void leftOutRefuses() {
        FairWheel x = Check.write(new FairWheel(), "????");
        Check.due("a fault", x.leftOut(-1), FairWheel.NO);
        Check.due("a fault, below -1", x.leftOut(-2), FairWheel.NO);
        Check.write(x, "AA?");
        Check.due("some ?", x.leftOut(0), FairWheel.STATE);
        Check.due("some ?, far beyond", x.leftOut(99), FairWheel.STATE);
        Check.write(x, "AA");
        Check.due("an event that can not be", x.leftOut(-1), FairWheel.NO);
        Check.due("the text stays", x.told(0), 2);
    }
}
