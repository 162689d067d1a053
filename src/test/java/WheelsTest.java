/** Promises 1 to 6: a new object, weigh, drag, say, wipe, fault. */
public final class WheelsTest {
    private WheelsTest() {
    }

    public static void main(String[] args) {
        newObject();
        weigh();
        weighMovesThePull();
        drag();
        say();
        sayRefusesInOrder();
        wipe();
        fault();
        faultOfTheFourthAsked();
        theLastCall();
        Check.end();
    }

    /** Promise 1. */
    private static void newObject() {
        FairWheel x = new FairWheel();
        Check.due("foot", x.foot(), 0);
        Check.due("pull", x.pull(), 1000000);
        Check.due("brake", x.brake(), 0);
        for (int i = 0; i < 8; i++) {
            Check.due("who is in car " + i, x.car(i, 0), FairWheel.NONE);
            Check.due("pebbles in car " + i, x.car(i, 1), 0);
            Check.due("place of car " + i, x.car(i, 2), i);
            Check.due("weight of person " + i, x.told(10 + i), 10);
            Check.due("car of person " + i, x.told(20 + i), FairWheel.NONE);
        }
        Check.due("signs", x.told(0), 0);
        Check.due("drag", x.told(1), 20);
        Check.due("sights", x.told(2), 0);
        Check.due("taken", x.told(3), 0);
        Check.due("restore 0", x.restore(0), FairWheel.STATE);
        Check.due("restore 1", x.restore(1), FairWheel.STATE);
    }

    /** Promise 2. */
    private static void weigh() {
        FairWheel x = new FairWheel();
        Check.due("first", x.weigh(0, 1), 10);
        Check.due("least", x.weigh(0, 99), 1);
        Check.due("greatest", x.weigh(0, 50), 99);
        Check.due("last person", x.weigh(7, 3), 10);
        Check.due("person -1", x.weigh(-1, 5), FairWheel.UNKNOWN);
        Check.due("person 8", x.weigh(8, 5), FairWheel.UNKNOWN);
        Check.due("unknown ahead of outside", x.weigh(8, 0), FairWheel.UNKNOWN);
        Check.due("weight 0", x.weigh(0, 0), FairWheel.OUTSIDE);
        Check.due("weight 100", x.weigh(0, 100), FairWheel.OUTSIDE);
        Check.due("far outside", x.weigh(0, Integer.MIN_VALUE), FairWheel.OUTSIDE);
        Check.due("refused calls change nothing", x.told(10), 50);
        Check.due("the others stay", x.told(16), 10);
        Check.due("person 7 has it", x.told(17), 3);
    }

    private static void weighMovesThePull() {
        FairWheel x = Check.told(">>A<<");
        Check.due("at the arm 10", x.pull(), 1000100);
        x.weigh(0, 99);
        Check.due("heavier", x.pull(), 1000990);
    }

    /** Promise 3. */
    private static void drag() {
        FairWheel x = new FairWheel();
        Check.due("first", x.drag(0), 20);
        Check.due("least", x.drag(9999), 0);
        Check.due("greatest", x.drag(7), 9999);
        Check.due("-1", x.drag(-1), FairWheel.OUTSIDE);
        Check.due("10000", x.drag(10000), FairWheel.OUTSIDE);
        Check.due("refused calls change nothing", x.told(1), 7);
    }

    /** Promise 4. */
    private static void say() {
        FairWheel x = new FairWheel();
        Check.due("code 33", x.say(33), 1);
        Check.due("code 126", x.say(126), 2);
        Check.due("code 32", x.say(32), FairWheel.OUTSIDE);
        Check.due("code 127", x.say(127), FairWheel.OUTSIDE);
        Check.due("code -1", x.say(-1), FairWheel.OUTSIDE);
        Check.due("refused signs are not there", x.told(0), 2);
        for (int i = 3; i <= 60; i++) {
            Check.due("sign " + i, x.say('>'), i);
        }
    }

    private static void sayRefusesInOrder() {
        FairWheel x = Check.write(new FairWheel(), ">".repeat(60));
        Check.due("sign 61", x.say('>'), FairWheel.FULL);
        Check.due("outside ahead of full", x.say(32), FairWheel.OUTSIDE);
        Check.due("60 stay", x.told(0), 60);
        Check.due("60 are done", x.done(), 60);
        Check.due("60 are half a round more than 7", x.foot(), 4);
        Check.due("there is room again", x.say('>'), 1);
    }

    /** Promise 5. */
    private static void wipe() {
        FairWheel x = Check.told("A");
        Check.due("nothing", x.wipe(), 0);
        Check.write(x, "?x>");
        Check.due("three", x.wipe(), 3);
        Check.due("they are gone", x.wipe(), 0);
        Check.due("so is the fault", x.fault(), FairWheel.NONE);
        Check.due("and nothing is asked", x.done(), 0);
        Check.due("the wheel stays", x.told(20), 0);
    }

    /** Promise 6. */
    private static void fault() {
        FairWheel x = new FairWheel();
        Check.due("of nothing", x.fault(), FairWheel.NONE);
        Check.write(x, "ABCDEFGHabcdefgh0123456789^><???");
        Check.due("of all that can stand", x.fault(), FairWheel.NONE);
        for (int code = 33; code <= 126; code++) {
            boolean stands = "ABCDEFGHabcdefgh0123456789^><?".indexOf(code) >= 0;
            FairWheel y = Check.write(new FairWheel(), "A>" + (char) code);
            Check.due("of code " + code, y.fault(), stands ? FairWheel.NONE : 2);
        }
        Check.write(x, "A.I.");
        Check.due("the first", x.fault(), 1);
        Check.write(x, "AAa>b");
        Check.due("an event that can not be is none", x.fault(), FairWheel.NONE);
        Check.write(x, ">".repeat(59) + "!");
        Check.due("at the end", x.fault(), 59);
    }

    private static void faultOfTheFourthAsked() {
        FairWheel x = Check.write(new FairWheel(), "?>?>?>");
        Check.due("three can stand", x.fault(), FairWheel.NONE);
        x.say('?');
        Check.due("the fourth can not", x.fault(), 6);
        x.say('?');
        Check.due("the first that can not", x.fault(), 6);
        Check.write(x, "????!");
        Check.due("the fourth is ahead of the !", x.fault(), 3);
        Check.write(x, "!????");
        Check.due("the ! is ahead of the fourth", x.fault(), 0);
    }

    /** "An object is used for at most 512 calls": all of them answer. */
    private static void theLastCall() {
        FairWheel x = new FairWheel();
        int calls = 0;
        for (int weight = 1; weight <= 99; weight++) {
            Check.due("weight " + weight, x.weigh(7, weight), weight == 1 ? 10 : weight - 1);
            Check.due("pushed", x.say('>'), 1);
            Check.due("an event", x.done(), 1);
            Check.due("kept", x.image(weight % 2), 1);
            Check.due("foot", x.foot(), weight % 8);
            calls += 5;
        }
        for (int car = 0; calls < 510; calls++, car++) {
            Check.due("the pebbles of a car", x.car(car % 8, 1), 0);
        }
        Check.due("call 511", x.restore(0), 1);
        Check.due("call 512", x.told(17), 98);
    }
}
