/** Promises 18 to 26: could, seen, forget, filled, chance, year, image, restore, told. */
public final class UntoldTest {
    private static final int NONE = FairWheel.NONE;

    private UntoldTest() {
    }

    public static void main(String[] args) {
        could();
        couldOfWhoIsOnTheWheel();
        couldRefuses();
        seen();
        forget();
        filled();
        filledWithNothingAsked();
        filledBySights();
        filledRefuses();
        chance();
        chanceOfOneWhoStays();
        chanceOfTheLastOne();
        chanceOfManyDraws();
        chanceRefuses();
        yearByHand();
        yearOfTheLastSeed();
        yearLeavesWhoIsThere();
        yearLeavesTheWheel();
        yearRefuses();
        image();
        imagesAreTwo();
        restoreKeepsThePad();
        told();
        Check.end();
    }

    private static void couldBe(FairWheel x, int person, int car, int count, int least, int greatest) {
        Check.due("how many", x.could(person, car, 0), count);
        Check.due("least", x.could(person, car, 1), least);
        Check.due("greatest", x.could(person, car, 2), greatest);
    }

    /** Promise 18. */
    private static void could() {
        FairWheel x = Check.write(new FairWheel(), "A>^");
        couldBe(x, 0, 0, 97, 3, 99);
        couldBe(x, 0, 1, 2, 1, 2);
        couldBe(x, 0, 7, 0, NONE, NONE);
        couldBe(x, 1, 0, 99, 1, 99);
        couldBe(x, 1, 1, 0, NONE, NONE);
        x.drag(692);
        couldBe(x, 0, 0, 1, 99, 99);
        couldBe(x, 0, 1, 98, 1, 98);
        Check.due("the weight stays", x.told(10), 10);
        Check.due("the text stays", x.told(0), 3);
        Check.write(x, "AA");
        couldBe(x, 0, 0, 0, NONE, NONE);
        Check.write(x, "");
        couldBe(x, 5, 0, 99, 1, 99);
    }

    /** The weight of who sat there before the text counts as well. */
    private static void couldOfWhoIsOnTheWheel() {
        FairWheel x = Check.told("A>>B<");
        Check.write(x, "^");
        // A at the place 7, B at 1: 7 times the difference against 20
        couldBe(x, 0, 1, 5, 8, 12);
        // lighter than 8: on to B's car, and held there, for A pulls back at the place 6
        couldBe(x, 0, 2, 7, 1, 7);
        couldBe(x, 0, 0, 87, 13, 99);
        Check.write(x, "^c");
        couldBe(x, 0, 1, 0, NONE, NONE);
        Check.write(x, "^b>");
        couldBe(x, 0, 3, 7, 1, 7);
    }

    private static void couldRefuses() {
        FairWheel x = Check.write(new FairWheel(), "?!");
        Check.due("person 8", x.could(8, 0, 0), FairWheel.UNKNOWN);
        Check.due("person -1", x.could(-1, 0, 0), FairWheel.UNKNOWN);
        Check.due("car 8", x.could(0, 8, 3), FairWheel.UNKNOWN);
        Check.due("car -1", x.could(0, -1, 0), FairWheel.UNKNOWN);
        Check.due("what 3", x.could(0, 0, 3), FairWheel.OUTSIDE);
        Check.due("what -1", x.could(0, 0, -1), FairWheel.OUTSIDE);
        Check.due("a fault", x.could(0, 0, 0), FairWheel.NO);
        Check.write(x, "AA?");
        Check.due("some ?", x.could(0, 0, 0), FairWheel.STATE);
    }

    /** Promise 19. */
    private static void seen() {
        FairWheel x = new FairWheel();
        Check.due("person 8", x.seen(8, 0), FairWheel.UNKNOWN);
        Check.due("person -1", x.seen(-1, 0), FairWheel.UNKNOWN);
        Check.due("car 8", x.seen(0, 8), FairWheel.UNKNOWN);
        Check.due("car -1", x.seen(0, -1), FairWheel.UNKNOWN);
        for (int i = 1; i <= 6; i++) {
            Check.due("sight " + i, x.seen(7, i < 3 ? 7 : i), i);
        }
        Check.due("sight 7", x.seen(0, 0), FairWheel.FULL);
        Check.due("unknown ahead of full", x.seen(8, 0), FairWheel.UNKNOWN);
        Check.due("six stay", x.told(2), 6);
    }

    /** Promise 20. */
    private static void forget() {
        FairWheel x = new FairWheel();
        Check.due("nothing", x.forget(), 0);
        x.seen(0, 0);
        x.seen(0, 1);
        Check.due("two", x.forget(), 2);
        Check.due("they are gone", x.told(2), 0);
        Check.due("none hinders", x.filled(-1), 1);
        Check.due("there is room again", x.seen(0, 0), 1);
    }

    private static void filledAre(FairWheel x, String text, int ways, int... first) {
        Check.write(x, text);
        Check.due("ways of " + text, x.filled(-1), ways);
        for (int i = 0; i < first.length; i++) {
            Check.due(i + "-th of " + text, x.filled(i), first[i]);
        }
        Check.due("beyond the last of " + text, x.filled(first.length), NONE);
        Check.due("below -1 of " + text, x.filled(-2), NONE);
        Check.due("far beyond", x.filled(Integer.MAX_VALUE), NONE);
        Check.due("the text stays", x.told(0), text.length());
    }

    /** Promise 21. */
    private static void filled() {
        FairWheel x = new FairWheel();
        filledAre(x, "?", 8, 0);
        filledAre(x, "A>?", 7, 1);
        filledAre(x, "?>A", 7, 1);
        filledAre(x, "?>?", 56, 0, 1);
        filledAre(x, "?>?>?", 336, 0, 1, 2);
        filledAre(x, "?>?>A", 42, 1, 2);
        filledAre(x, "?c", 1, 2);
        filledAre(x, "?a?", 8, 0, 0);
        filledAre(x, "?h?g?f", 1, 7, 6, 5);
        filledAre(x, "??", 0, NONE, NONE);
        filledAre(x, "?Aa", 0, NONE);
        Check.due("nobody got in", x.told(3), 0);
        x.weigh(0, 1);
        x.weigh(2, 2);
        // it turns back to who got in, if he weighs more than 2
        filledAre(x, "?>^?", 2 * 7, 0, 1);
        filledAre(x, "?>^?>B", 2 * 6, 0, 2);
        Check.tell(x, "A>");
        filledAre(x, "?>?", 42, 1, 2);
    }

    private static void filledWithNothingAsked() {
        FairWheel x = new FairWheel();
        filledAre(x, "", 1);
        filledAre(x, "A>B", 1);
        filledAre(x, "AB", 0);
        x.seen(0, 0);
        filledAre(x, "A>B", 1);
        filledAre(x, "B>A", 0);
        filledAre(x, "Aa", 0);
    }

    private static void filledBySights() {
        FairWheel x = new FairWheel();
        x.seen(4, 1);
        filledAre(x, "?>?", 7, 0, 4);
        x.seen(6, 0);
        filledAre(x, "?>?", 1, 6, 4);
        x.seen(6, 0);
        filledAre(x, "?>?", 1, 6, 4);
        x.seen(6, 2);
        filledAre(x, "?>?", 0, NONE, NONE);
        x.forget();
        x.seen(3, 5);
        filledAre(x, "?>?", 0, NONE, NONE);
        filledAre(x, "<<<?^>?", 7, 3, 0);
    }

    private static void filledRefuses() {
        FairWheel x = Check.write(new FairWheel(), "????");
        Check.due("a fault", x.filled(-1), FairWheel.NO);
        Check.due("a fault", x.filled(0), FairWheel.NO);
        Check.due("a fault, below -1", x.filled(-2), FairWheel.NO);
        Check.write(x, "?@");
        Check.due("a fault", x.filled(-1), FairWheel.NO);
    }

    private static void likely(FairWheel x, int person, int m, long upper, long lower) {
        Check.due("upper of " + person + " by " + m, x.chance(person, m, 0), upper);
        Check.due("lower of " + person + " by " + m, x.chance(person, m, 1), lower);
    }

    /** Promise 22. */
    private static void chance() {
        FairWheel x = new FairWheel();
        likely(x, 3, 0, 0, 1);
        likely(x, 3, 1, 1, 8);
        likely(x, 3, 3, 1, 8);
        likely(x, 0, 1, 1, 8);
        Check.tell(x, "A>>>>");
        // one of seven gets in across, and it stands
        likely(x, 0, 1, 0, 1);
        likely(x, 1, 1, 1, 7);
        likely(x, 7, 3, 1, 7);
        Check.due("nobody got in", x.told(3), 1);
        Check.due("it stays", x.foot(), 4);
    }

    private static void chanceOfOneWhoStays() {
        FairWheel x = Check.told("A");
        likely(x, 0, 0, 1, 1);
        likely(x, 0, 3, 1, 1);
        likely(x, 1, 3, 0, 1);
        Check.tell(x, ">B<");
        likely(x, 0, 0, 1, 1);
        likely(x, 0, 1, 0, 1);
        likely(x, 1, 1, 1, 1);
        Check.tell(x, ">>C>D>E>F>G>H");
        likely(x, 7, 3, 1, 1);
        likely(x, 0, 3, 0, 1);
    }

    private static void chanceOfTheLastOne() {
        FairWheel x = Check.told("A>B>C>D>E>F>G>");
        likely(x, 7, 0, 0, 1);
        likely(x, 7, 1, 1, 1);
        x.weigh(0, 50);
        // H holds it with A at the foot
        likely(x, 7, 1, 0, 1);
        likely(x, 0, 1, 1, 1);
        x.weigh(7, 99);
        likely(x, 0, 1, 1, 1);
        likely(x, 0, 2, 0, 1);
        likely(x, 7, 2, 1, 1);
    }

    /** The others weigh 1 to 7: who gets in at the car ahead of A's decides whether it turns back again. */
    private static void chanceOfManyDraws() {
        FairWheel x = new FairWheel();
        for (int person = 1; person < 8; person++) {
            x.weigh(person, person);
        }
        Check.tell(x, "A<");
        // A turns it on by a car; who got in pulls to the other side then, D to H beyond 20, but it is held
        likely(x, 0, 1, 1, 1);
        // let go again it turns back to who got in, if he is one of D to H
        likely(x, 0, 2, 2, 7);
        likely(x, 7, 2, 1, 7);
        likely(x, 1, 2, 0, 1);
        // then A is at the place 1 again, and turns it on again
        likely(x, 0, 3, 1, 1);
        x.drag(70);
        likely(x, 0, 3, 0, 1);
        likely(x, 5, 3, 1, 7);
        Check.tell(x, ">a");
        x.drag(0);
        Check.tell(x, "<");
        likely(x, 6, 1, 1, 8);
    }

    private static void chanceRefuses() {
        FairWheel x = new FairWheel();
        Check.due("person 8", x.chance(8, 0, 0), FairWheel.LOST + FairWheel.UNKNOWN);
        Check.due("person -1", x.chance(-1, 9, 9), FairWheel.LOST + FairWheel.UNKNOWN);
        Check.due("m 4", x.chance(0, 4, 0), FairWheel.LOST + FairWheel.OUTSIDE);
        Check.due("m -1", x.chance(0, -1, 0), FairWheel.LOST + FairWheel.OUTSIDE);
        Check.due("part 2", x.chance(0, 0, 2), FairWheel.LOST + FairWheel.OUTSIDE);
        Check.due("part -1", x.chance(0, 0, -1), FairWheel.LOST + FairWheel.OUTSIDE);
        Check.due("as a number", x.chance(8, 0, 0), -1000000000000000001L);
    }

    /** Promise 23. */
    private static void yearByHand() {
        FairWheel x = new FairWheel();
        // seed 0 becomes 74, 5624, 28652; by 2: 37, 2812, 14326, so F, E, G; by 16: 4, 351, 1790, so pushed in the 2nd
        Check.due("one turn: F gets in", x.year(0, 1, -1), 0);
        Check.due("one turn", x.year(0, 1, 0), 1);
        // it is pushed on, and turns back to F
        Check.due("two turns", x.year(0, 2, -1), 1);
        Check.due("twice car 0", x.year(0, 2, 0), 2);
        Check.due("never car 1", x.year(0, 2, 1), 0);
        x.drag(70);
        Check.due("held", x.year(0, 2, -1), 0);
        Check.due("then it stands with car 1 at the foot", x.year(0, 2, 1), 1);
        Check.due("and G gets in there, who is not yet on the wheel", x.year(0, 3, 1), 2);
        // seed 1 is 149, which is odd: 74 by 2, so C; 9 by 16, so it is pushed on
        Check.due("pushed", x.year(1, 1, 1), 1);
        Check.due("not there", x.year(1, 1, 0), 0);
        x.drag(20);
        Check.due("back to C", x.year(1, 1, -1), 1);
        x.weigh(2, 2);
        Check.due("C is too light", x.year(1, 1, -1), 0);
        Check.tell(x, "A");
        Check.due("A got out for C", x.year(1, 1, -1), 0);
        Check.tell(x, "a>>>>C<<<<A");
        Check.due("A got out, C is at the top already", x.year(1, 1, -1), 0);
        x.weigh(2, 10);
        Check.due("it turns on to C", x.year(1, 1, -1), 3);
        Check.due("C is at the foot", x.year(1, 1, 4), 1);
    }

    private static void yearOfTheLastSeed() {
        FairWheel x = new FairWheel();
        x.weigh(2, 2);
        // 749999 less 11 times 65537 is 29092; by 2: 14546, so C; by 16: 1818, so it is pushed, and C is too light
        Check.due("pushed", x.year(9999, 1, 1), 1);
        x.weigh(2, 3);
        Check.due("back to C", x.year(9999, 1, 0), 1);
        // then 19253, which is odd; by 2: 9626, so C, who gets out and in again; by 16: 1203, so it is pushed
        Check.due("back to C again", x.year(9999, 2, -1), 2);
        Check.due("twice car 0", x.year(9999, 2, 0), 2);
    }

    /** In the second turn of seed 0 E would get in, but F is there. */
    private static void yearLeavesWhoIsThere() {
        FairWheel x = new FairWheel();
        x.weigh(4, 2);
        Check.due("F turns it back", x.year(0, 2, -1), 1);
        x.weigh(4, 10);
        x.weigh(5, 2);
        Check.due("F is too light", x.year(0, 2, -1), 0);
    }

    private static void yearLeavesTheWheel() {
        FairWheel x = Check.told("A>>B");
        int first = x.year(4321, 99, -1);
        Check.due("nobody moved", x.told(3), 5);
        Check.due("it was not turned", x.foot(), 2);
        Check.due("the same again", x.year(4321, 99, -1), first);
        int sum = 0;
        for (int car = 0; car < 8; car++) {
            sum += x.year(4321, 99, car);
        }
        Check.due("each turn has one car at the foot", sum, 99);
    }

    private static void yearRefuses() {
        FairWheel x = new FairWheel();
        Check.due("car 8", x.year(0, 1, 8), FairWheel.UNKNOWN);
        Check.due("car -2", x.year(0, 1, -2), FairWheel.UNKNOWN);
        Check.due("unknown ahead of outside", x.year(-1, 0, 8), FairWheel.UNKNOWN);
        Check.due("seed -1", x.year(-1, 1, 0), FairWheel.OUTSIDE);
        Check.due("seed 10000", x.year(10000, 1, -1), FairWheel.OUTSIDE);
        Check.due("m 0", x.year(0, 0, 0), FairWheel.OUTSIDE);
        Check.due("m 100", x.year(0, 100, 0), FairWheel.OUTSIDE);
        Check.due("m 99, seed 9999", x.year(9999, 99, 0) >= 0 ? 1 : 0, 1);
    }

    /** Promises 24 and 25. */
    private static void image() {
        FairWheel x = Check.told("A55>>B<");
        x.weigh(3, 77);
        x.drag(1234);
        x.seen(0, 0);
        x.seen(1, 2);
        Check.due("kept", x.image(0), 1);
        Check.tell(x, "<0a>>bC>>");
        x.weigh(3, 1);
        x.drag(0);
        x.forget();
        x.seen(5, 5);
        Check.due("as it was", x.restore(0), 1);
        Check.due("foot", x.foot(), 1);
        Check.due("A", x.told(20), 0);
        Check.due("B", x.told(21), 2);
        Check.due("C", x.told(22), NONE);
        Check.due("who in 2", x.car(2, 0), 1);
        Check.due("taken", x.told(3), 5);
        Check.due("pebbles", x.car(0, 1), 10);
        Check.due("weight", x.told(13), 77);
        Check.due("drag", x.told(1), 1234);
        Check.due("sights", x.told(2), 2);
        Check.due("they hold", x.filled(-1), 1);
        Check.tell(x, ">b>>");
        Check.due("again", x.restore(0), 1);
        Check.due("B again", x.told(21), 2);
    }

    private static void imagesAreTwo() {
        FairWheel x = new FairWheel();
        Check.due("image 2", x.image(2), FairWheel.OUTSIDE);
        Check.due("image -1", x.image(-1), FairWheel.OUTSIDE);
        Check.due("restore 2", x.restore(2), FairWheel.OUTSIDE);
        Check.due("restore -1", x.restore(-1), FairWheel.OUTSIDE);
        Check.due("restore 1 at first", x.restore(1), FairWheel.STATE);
        x.image(1);
        Check.due("restore 0 of none", x.restore(0), FairWheel.STATE);
        Check.tell(x, ">");
        x.image(0);
        Check.tell(x, ">");
        Check.due("first", x.restore(1), 1);
        Check.due("first foot", x.foot(), 0);
        Check.due("second", x.restore(0), 1);
        Check.due("second foot", x.foot(), 1);
        Check.tell(x, ">>");
        x.image(1);
        x.restore(0);
        Check.due("second foot again", x.foot(), 1);
        x.restore(1);
        Check.due("kept anew", x.foot(), 3);
    }

    private static void restoreKeepsThePad() {
        FairWheel x = Check.write(new FairWheel(), "A>B");
        x.image(0);
        x.done();
        Check.write(x, "b<");
        Check.due("the event can be", x.judge(0), NONE);
        x.restore(0);
        Check.due("the text stays", x.told(0), 2);
        Check.due("B is not there now", x.judge(0), 0);
        Check.due("the wheel is empty", x.told(3), 0);
    }

    /** Promise 26. */
    private static void told() {
        FairWheel x = Check.told("A>>>7>>>>H");
        x.weigh(5, 55);
        x.seen(1, 1);
        x.drag(333);
        Check.write(x, "!?>");
        Check.due("signs", x.told(0), 3);
        Check.due("drag", x.told(1), 333);
        Check.due("sights", x.told(2), 1);
        Check.due("cars that are taken, pebbles do not count", x.told(3), 1 + 128);
        Check.due("weight of A", x.told(10), 10);
        Check.due("weight of F", x.told(15), 55);
        Check.due("weight of H", x.told(17), 10);
        Check.due("car of A", x.told(20), 0);
        Check.due("car of B", x.told(21), NONE);
        Check.due("car of H", x.told(27), 7);
        for (int what : new int[] {-1, 4, 9, 18, 19, 28, Integer.MIN_VALUE, Integer.MAX_VALUE}) {
            Check.due("what " + what, x.told(what), FairWheel.OUTSIDE);
        }
    }
}
