/** Promises 14 to 17: down, pebbles, brake, balance. */
public final class DownTest {
    private DownTest() {
    }

    public static void main(String[] args) {
        downOfOneMove();
        downOfWhoIsThere();
        downByThreeMoves();
        downByGettingOut();
        downByStaying();
        downByNoMoreThanThree();
        downTakesTheFirst();
        downMayGetInAgain();
        downRefuses();
        pebbles();
        pebblesUpTo99();
        pebblesOfWhoIsThere();
        brake();
        balance();
        balanceAtTheDrag();
        balanceOfFive();
        balanceForgetsTheWheel();
        balanceRefuses();
        Check.end();
    }

    private static void downIs(FairWheel x, int person, int moves, int out, int in) {
        Check.due("moves for " + person, x.down(person, 0), moves);
        Check.due("whether one gets out for " + person, x.down(person, 1), out);
        Check.due("who gets in for " + person, x.down(person, 2), in);
    }

    /** Promise 14. */
    private static void downOfOneMove() {
        FairWheel x = Check.told("A<");
        // any who gets in has no arm, so the first who is not on the wheel is told
        downIs(x, 0, 1, 0, 1);
        Check.due("nobody got in", x.told(3), 1);
        Check.due("it was not let go", x.foot(), 7);
        x = Check.told("B<");
        downIs(x, 1, 1, 0, 0);
        x.drag(70);
        downIs(x, 1, FairWheel.NONE, FairWheel.NONE, FairWheel.NONE);
    }

    private static void downOfWhoIsThere() {
        FairWheel x = Check.told("A");
        downIs(x, 0, 0, FairWheel.NONE, FairWheel.NONE);
        x = Check.told("C<<D>>");
        downIs(x, 2, 0, FairWheel.NONE, FairWheel.NONE);
    }

    /** The same evening for four people, who are 0 to 3 moves away. */
    private static void downByThreeMoves() {
        FairWheel x = new FairWheel();
        x.weigh(2, 60);
        x.weigh(3, 35);
        Check.tell(x, "A>>>>B>C>>D>");
        Check.due("car 0 is at the foot", x.foot(), 0);
        downIs(x, 0, 0, FairWheel.NONE, FairWheel.NONE);
        downIs(x, 1, 3, 1, FairWheel.NONE);
        downIs(x, 2, 1, 1, 0);
        downIs(x, 3, 2, 1, 0);
    }

    /** Who is in the car at the foot has no arm yet, but he has one when the wheel has turned by a car. */
    private static void downByGettingOut() {
        FairWheel x = new FairWheel();
        x.weigh(1, 60);
        Check.tell(x, "B<<A");
        // it turns on by two cars, with 600, then with 420 less 70 of A; A gets out and in again
        downIs(x, 1, 1, 1, 0);
        x.weigh(0, 99);
        // let go with A in the car it is held before B is down, for A pulls it to the other side
        Check.write(x, "^");
        Check.due("held before", x.behind(0), 7);
        x.weigh(2, 99);
        x.weigh(3, 99);
        x.weigh(4, 99);
        x.weigh(5, 99);
        x.weigh(6, 99);
        x.weigh(7, 2);
        downIs(x, 1, 1, 1, 7);
        x.weigh(7, 99);
        downIs(x, 1, 1, 1, FairWheel.NONE);
        x.weigh(5, 1);
        downIs(x, 1, 1, 1, 5);
    }

    /** All others are so heavy that they would hold the wheel: nobody may get in. */
    private static void downByStaying() {
        FairWheel x = new FairWheel();
        for (int person = 0; person < 8; person++) {
            x.weigh(person, person == 1 ? 60 : 99);
        }
        Check.tell(x, "B<<");
        downIs(x, 1, 1, 0, FairWheel.NONE);
    }

    private static void downByNoMoreThanThree() {
        FairWheel x = new FairWheel();
        x.weigh(6, 30);
        Check.tell(x, "A>>B>>>C>>");
        // PlainWheel brings C down by four moves
        downIs(x, 2, FairWheel.NONE, FairWheel.NONE, FairWheel.NONE);
        // with A at the foot B and C pull 30: D holds it
        downIs(x, 0, 1, 0, 3);
    }

    private static void downTakesTheFirst() {
        FairWheel x = Check.told("H<");
        downIs(x, 7, 1, 0, 0);
        Check.tell(x, "A");
        // A gets out and in again: that is ahead of staying, for somebody gets in
        downIs(x, 7, 1, 1, 0);
        x = Check.told("A>B>C>D>E>F>G>H");
        Check.due("all are on the wheel", x.told(3), 255);
        x.drag(0);
        downIs(x, 0, FairWheel.NONE, FairWheel.NONE, FairWheel.NONE);
    }

    /** Nobody is out but B, who is at the foot: he stays, or gets out and in again. */
    private static void downMayGetInAgain() {
        FairWheel x = Check.told("A>C>D>E>F>G>H>B");
        Check.due("B is at the foot", x.car(x.foot(), 0), 1);
        x.weigh(0, 20);
        // A pulls with 70 more than F across: it turns on by one car and is held
        downIs(x, 0, 1, 1, 1);
        x = Check.told("A>C>D>E>F>G>H>");
        x.weigh(0, 50);
        // B at the place 7 holds it with A at the foot; without B it would turn on
        downIs(x, 0, 1, 0, 1);
    }

    private static void downRefuses() {
        FairWheel x = Check.told("A>");
        Check.due("person 8", x.down(8, 0), FairWheel.UNKNOWN);
        Check.due("person -1", x.down(-1, 5), FairWheel.UNKNOWN);
        Check.due("what 3", x.down(1, 3), FairWheel.OUTSIDE);
        Check.due("what -1", x.down(0, -1), FairWheel.OUTSIDE);
        Check.due("B is not on the wheel", x.down(1, 0), FairWheel.STATE);
        Check.due("B is not on the wheel", x.down(1, 2), FairWheel.STATE);
    }

    /** Promise 15. */
    private static void pebbles() {
        FairWheel x = Check.told("A<");
        Check.due("it comes by itself", x.pebbles(0), 0);
        Check.due("pebbles stay", x.car(7, 1), 0);
        Check.tell(x, ">>>");
        // A at the place 6 pulls it back over two cars
        Check.due("back by itself", x.pebbles(0), 0);
        Check.tell(x, ">>");
        Check.due("not from the top: the pebbles have no arm", x.pebbles(0), FairWheel.NONE);
        Check.due("person 8", x.pebbles(8), FairWheel.UNKNOWN);
        Check.due("person -1", x.pebbles(-1), FairWheel.UNKNOWN);
        Check.due("B is not on the wheel", x.pebbles(1), FairWheel.STATE);
    }

    /** A is at the place 1, B at the place 2: it turns on past A, unless what was at the foot pulls it back then. */
    private static void pebblesUpTo99() {
        FairWheel x = new FairWheel();
        x.weigh(1, 40);
        Check.tell(x, ">A>B<<99");
        // with A at the foot B pulls 280 and n pebbles -7 n: held from 280 - 7 n <= 20 on
        Check.due("fewest", x.pebbles(0), 38);
        Check.due("those that are in it stay", x.car(0, 1), 18);
        Check.due("it was not let go", x.foot(), 0);
        x.drag(21);
        Check.due("a pebble less", x.pebbles(0), 37);
        x.drag(20);
        x.weigh(1, 99);
        // 693 - 7 n <= 20 from 97 on
        Check.due("nearly all", x.pebbles(0), 97);
        x.drag(0);
        Check.due("all 99", x.pebbles(0), 99);
        Check.tell(x, "C");
        x.weigh(2, 1);
        Check.due("C helps by one", x.pebbles(0), 98);
        Check.tell(x, "c>>1<<");
        Check.due("100 would be needed", x.pebbles(0), FairWheel.NONE);
    }

    private static void pebblesOfWhoIsThere() {
        FairWheel x = Check.told("A>B<");
        Check.due("he who is there would turn away", x.pebbles(0), FairWheel.NONE);
        Check.due("the next one comes", x.pebbles(1), 0);
        x.drag(70);
        Check.due("held", x.pebbles(0), 0);
        Check.due("held before he comes", x.pebbles(1), FairWheel.NONE);
    }

    /** Promise 16. */
    private static void brake() {
        FairWheel x = Check.told("A");
        Check.due("one alone", x.brake(), 100);
        Check.tell(x, "9");
        Check.due("with pebbles", x.brake(), 190);
        Check.tell(x, ">>>>B");
        Check.due("one across", x.brake(), 90);
        Check.tell(x, "9");
        Check.due("in balance", x.brake(), 0);
        Check.tell(x, ">C");
        Check.due("wherever it is turned to, so by how far it is now does not matter", x.brake(), 100);
        Check.tell(x, ">>D");
        // both at the arm 7
        Check.due("two cars apart", x.brake(), 140);
        x.weigh(2, 99);
        Check.due("990 and 0 is more than 693 and 70", x.brake(), 990);
        int before = x.foot();
        x.drag(990);
        Check.tell(x, ">>>>^");
        Check.due("it stands then", x.foot(), (before + 4) % 8);
    }

    private static void balanceIs(FairWheel x, String set, int ways, int... cars) {
        int bits = 0;
        for (char letter : set.toCharArray()) {
            bits |= 1 << letter - 'A';
        }
        Check.due("ways of " + set, x.balance(bits, -1), ways);
        for (int i = 0; i < set.length(); i++) {
            int due = ways == 0 ? FairWheel.NONE : cars[i];
            Check.due("car of " + set.charAt(i), x.balance(bits, set.charAt(i) - 'A'), due);
        }
    }

    /** Promise 17. */
    private static void balance() {
        FairWheel x = new FairWheel();
        balanceIs(x, "", 1);
        balanceIs(x, "A", 0);
        balanceIs(x, "AB", 8, 0, 4);
        balanceIs(x, "GH", 8, 0, 4);
        x.weigh(7, 12);
        balanceIs(x, "GH", 8, 0, 4);
        x.weigh(7, 13);
        balanceIs(x, "GH", 0);
        // 13 of H against two of 10 three cars away on either side
        balanceIs(x, "FGH", 16, 0, 2, 5);
        x.weigh(7, 10);
        x.drag(0);
        // three ways to part them into pairs, who sit across
        balanceIs(x, "ABCD", 3 * 8 * 6, 0, 1, 4, 5);
    }

    private static void balanceAtTheDrag() {
        FairWheel x = new FairWheel();
        x.drag(100);
        balanceIs(x, "A", 8, 0);
        x.drag(99);
        balanceIs(x, "A", 0);
        x.drag(9999);
        balanceIs(x, "C", 8, 0);
        balanceIs(x, "AB", 56, 0, 1);
        balanceIs(x, "BDFGH", 8 * 7 * 6 * 5 * 4, 0, 1, 2, 3, 4);
    }

    private static void balanceOfFive() {
        FairWheel x = new FairWheel();
        x.weigh(4, 1);
        // two pairs across, and E in one of the four cars that are left
        balanceIs(x, "ABCDE", 3 * 8 * 6 * 4, 0, 1, 4, 5, 2);
    }

    private static void balanceForgetsTheWheel() {
        FairWheel x = Check.told("A99>>B>");
        balanceIs(x, "AB", 8, 0, 4);
        balanceIs(x, "", 1);
        Check.due("the wheel stays", x.car(0, 1), 18);
        Check.due("A stays", x.car(0, 0), 0);
        Check.due("the foot stays", x.foot(), 3);
    }

    private static void balanceRefuses() {
        FairWheel x = new FairWheel();
        Check.due("person 8", x.balance(256, 8), FairWheel.UNKNOWN);
        Check.due("person -2", x.balance(-1, -2), FairWheel.UNKNOWN);
        Check.due("set 256", x.balance(256, 0), FairWheel.OUTSIDE);
        Check.due("set -1", x.balance(-1, 0), FairWheel.OUTSIDE);
        Check.due("set 257", x.balance(257, 0), FairWheel.OUTSIDE);
        Check.due("not of the set, ahead of more than 5", x.balance(63, 6), FairWheel.UNKNOWN);
        Check.due("not of the set", x.balance(3, 2), FairWheel.UNKNOWN);
        Check.due("more than 5", x.balance(63, -1), FairWheel.FULL);
        Check.due("more than 5", x.balance(63, 5), FairWheel.FULL);
        Check.due("all", x.balance(255, 0), FairWheel.FULL);
    }
}
