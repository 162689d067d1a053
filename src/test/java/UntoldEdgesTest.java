/**
 * The edges of COULD, SIGHTS, FILLED, CHANCE and A YEAR (DOC.md, Terms 4, promises 18 to 23). Above each test stands
 * the sentence that it is for.
 */
public final class UntoldEdgesTest {
    private static final int NONE = FairWheel.NONE;
    private static final int FAR = Integer.MAX_VALUE, FAR_BELOW = Integer.MIN_VALUE;

    private UntoldEdgesTest() {
    }

    public static void main(String[] args) {
        couldRefusesInOrder();
        couldOfAnEmptyAndAFullText();
        couldAtBothEndsOfTheWeights();
        couldRoundTheRing();
        couldWithAGap();
        couldOfTextsThatCanNotBe();
        couldLeavesTheWeight();
        seenRefusesInOrder();
        sixSights();
        forgetAtBothEnds();
        filledRefuses();
        filledBeyondItsEnds();
        filledOfUpToThree();
        filledFirstByLetters();
        filledWithoutAsking();
        filledOfAFullWheel();
        filledByEachSight();
        chanceRefusesInOrder();
        chanceOfNoDraws();
        chanceInLowestTerms();
        chanceOnAnEmptyWheel();
        chanceOnAFullWheel();
        chanceOfWhoStays();
        yearRefusesInOrder();
        yearAtBothEnds();
        yearWithPushes();
        yearWithLettingOut();
        yearOnAFullWheel();
        yearCountsEachTurn();
        yearOfLeastAndGreatestDraws();
        Check.end();
    }

    private static void couldBe(FairWheel x, int person, int car, int count, int least, int greatest) {
        Check.due("how many of " + person + " to " + car, x.could(person, car, 0), count);
        Check.due("least of " + person + " to " + car, x.could(person, car, 1), least);
        Check.due("greatest of " + person + " to " + car, x.could(person, car, 2), greatest);
    }

    /** Promise 18: "UNKNOWN: both; OUTSIDE; NO: there is a FAULT; STATE: there is some ?." */
    private static void couldRefusesInOrder() {
        for (String text : new String[] {"", "!", "?", "?!", "AA?"}) {
            FairWheel x = Check.write(new FairWheel(), text);
            for (int beyond : new int[] {FAR_BELOW, -1, 8, 9, FAR}) {
                for (int what = -1; what <= 3; what++) {
                    Check.due("person of " + text, x.could(beyond, 0, what), FairWheel.UNKNOWN);
                    Check.due("car of " + text, x.could(7, beyond, what), FairWheel.UNKNOWN);
                }
                Check.due("both of " + text, x.could(beyond, beyond, 0), FairWheel.UNKNOWN);
            }
            for (int what : new int[] {FAR_BELOW, -1, 3, 4, FAR}) {
                Check.due("what of " + text, x.could(0, 7, what), FairWheel.OUTSIDE);
            }
            int refusal = text.indexOf('!') >= 0 ? FairWheel.NO : FairWheel.STATE;
            for (int what = 0; what < 3 && !text.isEmpty(); what++) {
                Check.due("text " + text, x.could(7, 0, what), refusal);
            }
        }
        FairWheel x = Check.write(new FairWheel(), "????");
        Check.due("the fourth ? is a fault", x.could(0, 0, 0), FairWheel.NO);
    }

    private static void couldOfAnEmptyAndAFullText() {
        FairWheel x = Check.told(">>>");
        for (int person = 0; person < 8; person++) {
            for (int car = 0; car < 8; car++) {
                boolean there = car == 3;
                couldBe(x, person, car, there ? 99 : 0, there ? 1 : NONE, there ? 99 : NONE);
            }
        }
        Check.write(x, "A" + ">".repeat(58) + "^");
        // 58 on is two on, so A is at the place 6: -10, -20, and -30, which turns it back
        couldBe(x, 0, 5, 2, 1, 2);
        couldBe(x, 0, 3, 97, 3, 99);
    }

    /** "weights (1 to 99) of a PERSON" */
    private static void couldAtBothEndsOfTheWeights() {
        FairWheel x = Check.write(new FairWheel(), "H<^");
        // a drag, and how many weights it does not hold
        int[][] ends = {
            {0, 99}, {6, 99}, {7, 98}, {13, 98}, {14, 97}, {685, 2}, {686, 1}, {692, 1}, {693, 0}, {9999, 0}};
        for (int[] end : ends) {
            x.drag(end[0]);
            int turns = end[1];
            int stands = 99 - turns;
            couldBe(x, 7, 0, turns, turns == 0 ? NONE : stands + 1, turns == 0 ? NONE : 99);
            couldBe(x, 7, 7, stands, stands == 0 ? NONE : 1, stands == 0 ? NONE : stands);
        }
    }

    /** "CAR c is at THE FOOT behind it": with 2 it stands, with 3 he comes down, from car 0 round to 7 and back. */
    private static void couldRoundTheRing() {
        for (int car = 0; car < 8; car++) {
            FairWheel x = Check.told(">".repeat(car));
            Check.write(x, "E>^");
            couldBe(x, 4, car, 97, 3, 99);
            couldBe(x, 4, (car + 1) % 8, 2, 1, 2);
            couldBe(x, 4, (car + 7) % 8, 0, NONE, NONE);
            Check.write(x, "E<^");
            couldBe(x, 4, car, 97, 3, 99);
            couldBe(x, 4, (car + 7) % 8, 2, 1, 2);
            couldBe(x, 4, (car + 1) % 8, 0, NONE, NONE);
        }
    }

    /** "how many, the least, the greatest": those between need not all be of them. */
    private static void couldWithAGap() {
        FairWheel x = Check.told(">>A>>C>>>");
        Check.write(x, "^");
        // A is at the place 3, C at 5. From 13 on it turns on to car 3, up to 7 back: from 3 on as far as there
        couldBe(x, 0, 3, 5 + 87, 3, 99);
        couldBe(x, 0, 4, 2, 1, 2);
        couldBe(x, 0, 7, 5, 8, 12);
        couldBe(x, 0, 2, 0, NONE, NONE);
    }

    /** "by which all EVENTS of the TEXT can be" */
    private static void couldOfTextsThatCanNotBe() {
        for (String text : new String[] {"AA", "AB", "a", "A>a", "9".repeat(12), ">".repeat(59) + "c"}) {
            FairWheel x = Check.write(new FairWheel(), text);
            for (int car = 0; car < 8; car++) {
                couldBe(x, 0, car, 0, NONE, NONE);
            }
        }
        FairWheel x = Check.write(new FairWheel(), "A>^a");
        couldBe(x, 0, 0, 97, 3, 99);
        couldBe(x, 0, 1, 0, NONE, NONE);
        couldBe(x, 1, 0, 99, 1, 99);
        Check.write(x, "A>^B");
        couldBe(x, 0, 0, 0, NONE, NONE);
        couldBe(x, 0, 1, 2, 1, 2);
        couldBe(x, 2, 1, 0, NONE, NONE);
    }

    /** "all others being as told": his own weight does not matter, and stays. */
    private static void couldLeavesTheWeight() {
        FairWheel x = Check.told("A>>B<");
        Check.write(x, "^");
        x.weigh(0, 99);
        couldBe(x, 0, 1, 5, 8, 12);
        Check.due("it stays", x.told(10), 99);
        x.weigh(1, 20);
        couldBe(x, 0, 1, 5, 18, 22);
        couldBe(x, 1, 0, 96, 1, 96);
        Check.due("it stays", x.told(11), 20);
        Check.due("all stay", x.told(3), 5);
        Check.due("it was not let go", x.foot(), 1);
    }

    /** Promise 19: "A SIGHT more: how many. UNKNOWN: both; FULL." */
    private static void seenRefusesInOrder() {
        FairWheel x = new FairWheel();
        for (int sights = 0; sights <= 6; sights++) {
            for (int beyond : new int[] {FAR_BELOW, -1, 8, 9, FAR}) {
                Check.due("person", x.seen(beyond, 0), FairWheel.UNKNOWN);
                Check.due("car", x.seen(7, beyond), FairWheel.UNKNOWN);
                Check.due("both", x.seen(beyond, beyond), FairWheel.UNKNOWN);
            }
            Check.due("sights", x.told(2), sights);
            Check.due("a sight more", x.seen(sights % 2 * 7, 7 - sights), sights < 6 ? sights + 1 : FairWheel.FULL);
        }
        Check.due("full again", x.seen(0, 0), FairWheel.FULL);
        Check.due("six stay", x.told(2), 6);
    }

    /** "SIGHTS hold (6 at most: behind the TEXT a PERSON is in a CAR)": each of the six hinders alone. */
    private static void sixSights() {
        for (int wrong = 0; wrong < 7; wrong++) {
            FairWheel x = Check.write(new FairWheel(), "A>B>C>D>E>F");
            for (int i = 0; i < 6; i++) {
                Check.due("a sight more", x.seen(i, i == wrong ? 7 : i), i + 1);
            }
            Check.due("ways when sight " + wrong + " is wrong", x.filled(-1), wrong == 6 ? 1 : 0);
            Check.due("one more", x.seen(7, 7), FairWheel.FULL);
            Check.due("which does not count", x.filled(-1), wrong == 6 ? 1 : 0);
        }
        FairWheel x = Check.write(new FairWheel(), "A>B");
        x.seen(0, 1);
        Check.due("another car", x.filled(-1), 0);
        x.forget();
        x.seen(2, 1);
        Check.due("another person", x.filled(-1), 0);
        x.forget();
        x.seen(1, 1);
        x.seen(1, 1);
        Check.due("told twice", x.told(2), 2);
        Check.due("holds twice", x.filled(-1), 1);
    }

    /** Promise 20: "SIGHTS go: how many there were." */
    private static void forgetAtBothEnds() {
        FairWheel x = Check.write(new FairWheel(), "?");
        Check.due("none", x.forget(), 0);
        for (int i = 0; i < 6; i++) {
            x.seen(7, 7);
        }
        Check.due("none can be", x.filled(-1), 0);
        Check.due("six", x.forget(), 6);
        Check.due("none is left", x.told(2), 0);
        Check.due("none hinders", x.filled(-1), 8);
        Check.due("none", x.forget(), 0);
        Check.due("the first again", x.seen(3, 0), 1);
        Check.due("that one counts", x.filled(0), 3);
        Check.due("the text stays", x.told(0), 1);
    }

    /** Promise 21: "NO: there is a FAULT." */
    private static void filledRefuses() {
        for (String text : new String[] {"!", "?!", "????", "AA!", ">".repeat(59) + "x"}) {
            FairWheel x = Check.write(new FairWheel(), text);
            for (int i : new int[] {FAR_BELOW, -2, -1, 0, 2, 3, FAR}) {
                Check.due("filled " + i + " of " + text, x.filled(i), FairWheel.NO);
            }
        }
    }

    /** "how many ways (i = -1; 0: none), the PERSON of the i-th ? in the first; NONE" */
    private static void filledBeyondItsEnds() {
        for (int asked = 0; asked <= 3; asked++) {
            FairWheel x = Check.write(new FairWheel(), "?>".repeat(asked));
            for (int i : new int[] {FAR_BELOW, -3, -2, asked, asked + 1, 60, FAR}) {
                Check.due("filled " + i + " of " + asked, x.filled(i), NONE);
            }
            for (int i = 0; i < asked; i++) {
                Check.due("filled " + i + " of " + asked, x.filled(i), i);
            }
        }
        FairWheel x = Check.write(new FairWheel(), "AA???");
        Check.due("no way", x.filled(-1), 0);
        for (int i = -2; i < 4; i++) {
            Check.due("filled " + i + " of no way", x.filled(i), i == -1 ? 0 : NONE);
        }
    }

    private static void filledAre(FairWheel x, String text, int ways, int... first) {
        Check.write(x, text);
        Check.due("ways of " + text, x.filled(-1), ways);
        for (int i = 0; i < first.length; i++) {
            Check.due(i + "-th of " + text, x.filled(i), first[i]);
        }
        Check.due("beyond the last of " + text, x.filled(first.length), NONE);
        Check.due("the text stays", x.told(0), text.length());
    }

    /** "ways to write a PERSON for each ?" */
    private static void filledOfUpToThree() {
        FairWheel x = new FairWheel();
        filledAre(x, "", 1);
        filledAre(x, "?", 8, 0);
        filledAre(x, "?>?", 56, 0, 1);
        filledAre(x, "?>?>?", 336, 0, 1, 2);
        filledAre(x, "?<?<?", 336, 0, 1, 2);
        filledAre(x, ">".repeat(57) + "?>?", 56, 0, 1);
        filledAre(x, "?".repeat(3), 0, NONE, NONE, NONE);
        filledAre(x, "?a?b?c", 1, 0, 1, 2);
        filledAre(x, "?h?h?h", 1, 7, 7, 7);
        filledAre(x, "?h?a?d", 1, 7, 0, 3);
        Check.due("nobody got in", x.told(3), 0);
    }

    /** "the first by letters": of the first ? ahead of the second, that ahead of the third. */
    private static void filledFirstByLetters() {
        FairWheel x = new FairWheel();
        x.seen(0, 2);
        filledAre(x, "?>?>?", 42, 1, 2, 0);
        x.seen(1, 0);
        filledAre(x, "?>?>?", 6, 1, 2, 0);
        x.forget();
        x.seen(0, 1);
        x.seen(1, 2);
        filledAre(x, "?>?>?", 6, 2, 0, 1);
        x.forget();
        x.seen(7, 0);
        x.seen(6, 1);
        x.seen(5, 2);
        filledAre(x, "?>?>?", 1, 7, 6, 5);
        filledAre(x, "?>?>F", 1, 7, 6);
    }

    private static void filledWithoutAsking() {
        FairWheel x = new FairWheel();
        filledAre(x, "A>B", 1);
        filledAre(x, "AB", 0);
        filledAre(x, "a", 0);
        filledAre(x, "9".repeat(11), 1);
        filledAre(x, "9".repeat(12), 0);
        x.seen(1, 1);
        filledAre(x, "A>B", 1);
        filledAre(x, "A>C", 0);
        filledAre(x, "", 0);
        Check.tell(x, ">B");
        filledAre(x, "", 1);
        filledAre(x, "?", 0, NONE);
        filledAre(x, ">?", 7, 0);
    }

    private static void filledOfAFullWheel() {
        FairWheel x = Check.told("A>B>C>D>E>F>G>H");
        filledAre(x, "?", 0, NONE);
        filledAre(x, "", 1);
        filledAre(x, "h?", 1, 7);
        filledAre(x, "h?<g?", 1, 7, 6);
        filledAre(x, "h<g?>?", 2, 6, 7);
        filledAre(x, "h<g<f?>?>?", 6, 5, 6, 7);
        x.seen(7, 5);
        filledAre(x, "h<g<f?>?>?", 2, 7, 5, 6);
        x.seen(0, 1);
        filledAre(x, "h<g<f?>?>?", 0, NONE, NONE, NONE);
    }

    /** "behind the TEXT a PERSON is in a CAR": it may be one who is told, or who was there before. */
    private static void filledByEachSight() {
        for (int car = 0; car < 8; car++) {
            FairWheel x = Check.told(">".repeat(car));
            x.seen(4, car);
            filledAre(x, "?", 1, 4);
            filledAre(x, "?<<<^", 1, 4);
            filledAre(x, ">?<?", 7, 0, 4);
            filledAre(x, "E>?", 7, 0);
            filledAre(x, "<?", 0, NONE);
            Check.tell(x, "E");
            filledAre(x, "", 1);
            filledAre(x, ">?", 7, 0);
            filledAre(x, "e?", 1, 4);
        }
    }

    private static void likely(FairWheel x, int person, int m, long upper, long lower) {
        Check.due("upper of " + person + " by " + m, x.chance(person, m, 0), upper);
        Check.due("lower of " + person + " by " + m, x.chance(person, m, 1), lower);
    }

    /** Promise 22: "UNKNOWN; OUTSIDE." and "refused with LOST and the refusal" */
    private static void chanceRefusesInOrder() {
        FairWheel x = new FairWheel();
        for (int person : new int[] {FAR_BELOW, -1, 8, 9, FAR}) {
            for (int m = -1; m <= 4; m++) {
                for (int part = -1; part <= 2; part++) {
                    long got = x.chance(person, m, part);
                    Check.due("chance " + person + " " + m + " " + part, got, -1000000000000000001L);
                }
            }
        }
        for (int person = 0; person < 8; person += 7) {
            for (int m : new int[] {FAR_BELOW, -1, 4, 5, FAR}) {
                Check.due("m " + m, x.chance(person, m, 0), -1000000000000000002L);
                Check.due("m " + m, x.chance(person, m, 1), -1000000000000000002L);
                Check.due("both", x.chance(person, m, 2), -1000000000000000002L);
            }
            for (int part : new int[] {FAR_BELOW, -1, 2, 3, FAR}) {
                Check.due("part " + part, x.chance(person, 0, part), -1000000000000000002L);
                Check.due("part " + part, x.chance(person, 3, part), -1000000000000000002L);
            }
        }
        likely(x, 0, 0, 0, 1);
        likely(x, 7, 3, 1, 8);
    }

    /** "m times (0 to 3)": of none it is not let go. */
    private static void chanceOfNoDraws() {
        for (int car = 0; car < 8; car++) {
            FairWheel x = Check.told(">".repeat(car) + "C");
            likely(x, 2, 0, 1, 1);
            likely(x, 3, 0, 0, 1);
            Check.tell(x, "<");
            likely(x, 2, 0, 0, 1);
            likely(x, 2, 1, 1, 1);
            Check.tell(x, ">>");
            likely(x, 2, 0, 0, 1);
            likely(x, 2, 1, 1, 1);
        }
    }

    /** "Fractions are told in lowest terms by part: 0 the upper, 1 the lower number": as many in six as weigh 8. */
    private static void chanceInLowestTerms() {
        int[][] sixths = {{0, 1}, {1, 6}, {1, 3}, {1, 2}, {2, 3}, {5, 6}, {1, 1}};
        FairWheel x = new FairWheel();
        x.weigh(1, 1);
        // A is at the place 2, B at 4; with A at 1 it pulls 77 less 7 of who got in each, above 20 up to 8
        Check.tell(x, "A>>B>>>>");
        for (int light = 0; light <= 6; light++) {
            likely(x, 0, 1, sixths[light][0], sixths[light][1]);
            x.weigh(light + 2 < 8 ? light + 2 : 0, light + 2 < 8 ? 8 : 10);
        }
        for (int heavy = 0; heavy <= 6; heavy++) {
            likely(x, 0, 1, sixths[6 - heavy][0], sixths[6 - heavy][1]);
            x.weigh(heavy + 2 < 8 ? heavy + 2 : 0, heavy + 2 < 8 ? 9 : 10);
        }
    }

    /** "one of those who are not on the wheel gets in, each as likely" */
    private static void chanceOnAnEmptyWheel() {
        for (int person = 0; person < 8; person++) {
            FairWheel x = new FairWheel();
            likely(x, person, 0, 0, 1);
            likely(x, person, 1, 1, 8);
            likely(x, person, 2, 1, 8);
            likely(x, person, 3, 1, 8);
        }
        FairWheel x = new FairWheel();
        x.weigh(0, 1);
        x.weigh(1, 2);
        Check.tell(x, ">>" + "9".repeat(11) + "<<");
        // 99 pebbles turn it on to car 2; who got in first turns it back by one, if he weighs more than 2
        likely(x, 0, 1, 0, 1);
        likely(x, 0, 2, 1, 56);
        likely(x, 1, 2, 1, 56);
        for (int person = 2; person < 8; person++) {
            likely(x, person, 2, 1, 28);
        }
        // then the pebbles turn it on to car 2 again, where the second one is in any case
        likely(x, 0, 3, 1, 8);
        likely(x, 7, 3, 1, 8);
    }

    /** "(nobody, if there is none)" */
    private static void chanceOnAFullWheel() {
        FairWheel x = Check.told("A>B>C>D>E>F>G>H");
        for (int m = 0; m < 4; m++) {
            for (int person = 0; person < 8; person++) {
                likely(x, person, m, person == 7 ? 1 : 0, 1);
            }
        }
        x.weigh(1, 99);
        // B is at the place 2, and comes down
        likely(x, 7, 0, 1, 1);
        likely(x, 7, 1, 0, 1);
        likely(x, 1, 1, 1, 1);
        likely(x, 1, 3, 1, 1);
    }

    /** "who is in it stays; then it is LET GO" */
    private static void chanceOfWhoStays() {
        FairWheel x = Check.told(">B<A");
        likely(x, 0, 0, 1, 1);
        likely(x, 0, 1, 0, 1);
        likely(x, 1, 1, 1, 1);
        // with B at the foot A is at the place 7, and turns it back to himself
        likely(x, 0, 2, 1, 1);
        likely(x, 1, 3, 1, 1);
        Check.due("nobody moved", x.told(3), 3);
        Check.due("it was not let go", x.foot(), 0);
    }

    /** Promise 23: "UNKNOWN; OUTSIDE." */
    private static void yearRefusesInOrder() {
        FairWheel x = new FairWheel();
        for (int car : new int[] {FAR_BELOW, -3, -2, 8, 9, FAR}) {
            for (int seed = -1; seed <= 10000; seed += 10001) {
                Check.due("car " + car, x.year(seed, 1, car), FairWheel.UNKNOWN);
                Check.due("car " + car, x.year(seed, 0, car), FairWheel.UNKNOWN);
                Check.due("car " + car, x.year(5, 100, car), FairWheel.UNKNOWN);
            }
        }
        for (int car = -1; car < 8; car++) {
            for (int seed : new int[] {FAR_BELOW, -1, 10000, 65537, FAR}) {
                Check.due("seed " + seed, x.year(seed, 1, car), FairWheel.OUTSIDE);
                Check.due("seed " + seed, x.year(seed, 99, car), FairWheel.OUTSIDE);
            }
            for (int m : new int[] {FAR_BELOW, -1, 0, 100, 101, FAR}) {
                Check.due("m " + m, x.year(0, m, car), FairWheel.OUTSIDE);
                Check.due("m " + m, x.year(9999, m, car), FairWheel.OUTSIDE);
            }
        }
    }

    /** "a seed (0 to 9999) of m turns (1 to 99)" */
    private static void yearAtBothEnds() {
        FairWheel x = new FairWheel();
        // seed 0 is 74: F gets in, and it is not pushed; seed 9999 is 29092: C gets in, it is pushed and turns back
        Check.due("seed 0, one turn", x.year(0, 1, -1), 0);
        Check.due("seed 0, at the foot", x.year(0, 1, 0), 1);
        Check.due("seed 9999, one turn", x.year(9999, 1, -1), 1);
        Check.due("seed 9999, at the foot", x.year(9999, 1, 0), 1);
        for (int car = 1; car < 8; car++) {
            Check.due("seed 0, car " + car, x.year(0, 1, car), 0);
            Check.due("seed 9999, car " + car, x.year(9999, 1, car), 0);
        }
        Check.due("seed 0, 99 turns", yearsTurns(x, 0, 99), 99);
        Check.due("seed 9999, 99 turns", yearsTurns(x, 9999, 99), 99);
        Check.due("seed 9999, 98 turns", yearsTurns(x, 9999, 98), 98);
        x.drag(9999);
        Check.due("held, it never turns", x.year(0, 99, -1), 0);
        Check.due("held, it never turns", x.year(9999, 99, -1), 0);
    }

    private static int yearsTurns(FairWheel x, int seed, int m) {
        int sum = 0;
        for (int car = 0; car < 8; car++) {
            sum += x.year(seed, m, car);
        }
        return sum;
    }

    /** "then it is pushed on by one CAR, if x by 16 (cut) is left over by 3 as 0": round the ring, when it is held. */
    private static void yearWithPushes() {
        // seed 12 becomes 974, 7587, 44803, 17912: by 16 (cut) 60, 474, 2800, 1119, left over by 3: 0, 0, 1, 0
        int[] pushes = {1, 2, 2, 3};
        for (int car = 0; car < 8; car++) {
            FairWheel x = Check.told(">".repeat(car));
            x.drag(9999);
            int[] often = new int[8];
            for (int m = 1; m <= 4; m++) {
                int foot = (car + pushes[m - 1]) % 8;
                often[foot]++;
                Check.due("foot behind turn " + m, x.year(12, m, foot), often[foot]);
                Check.due("not at the first", x.year(12, m, car), 0);
                Check.due("pushes do not count", x.year(12, m, -1), 0);
            }
        }
    }

    /** "if somebody is in the CAR at THE FOOT he gets out, if x is odd; if it is empty then and PERSON .. gets in" */
    private static void yearWithLettingOut() {
        // seed 1 is 149, odd: C gets in, who turns it back by one. Seed 0 is 74, even: F would
        FairWheel x = Check.told("A");
        Check.due("A gets out for C", x.year(1, 1, -1), 1);
        x.weigh(2, 2);
        Check.due("who is light", x.year(1, 1, -1), 0);
        x.weigh(0, 99);
        Check.due("A is out", x.year(1, 1, -1), 0);
        x = Check.told("C");
        Check.due("C gets out and in again", x.year(1, 1, -1), 1);
        x = Check.told("C>>>>");
        // C is on the wheel: nobody gets in, it is pushed, and he comes down
        Check.due("C is at the top", x.year(1, 1, -1), 3);
        Check.due("then at the foot", x.year(1, 1, 0), 1);
        x = Check.told("F>>>>");
        Check.due("even: F is on it already", x.year(0, 1, -1), 0);
        x = Check.told(">>1<<A");
        x.drag(9);
        Check.due("even: A stays", x.year(0, 1, -1), 1);
        x.weigh(5, 99);
        Check.due("so F does not get in", x.year(0, 1, 1), 1);
    }

    private static void yearOnAFullWheel() {
        FairWheel x = Check.told("A>B>C>D>E>F>G>H>");
        // seed 1 lets A out, and C is on it already; it turns on until the empty car is at the top
        Check.due("turned by", x.year(1, 1, -1), 3);
        Check.due("to the place 4", x.year(1, 1, 4), 1);
        Check.due("99 turns", yearsTurns(x, 1, 99), 99);
        Check.due("nobody moved", x.told(3), 255);
        Check.due("it was not turned", x.foot(), 0);
    }

    /** "(each way counting, pushes not); how often a CAR was at THE FOOT behind a turn" */
    private static void yearCountsEachTurn() {
        for (int seed = 0; seed < 10000; seed += 1111) {
            FairWheel x = Check.told("A>>9>B>>>3>C");
            x.drag(0);
            int before = 0;
            for (int m = 1; m <= 40; m += 13) {
                int turned = x.year(seed, m, -1);
                Check.dueThat("more turns turn it no less", turned >= before);
                Check.due("each turn has its car", yearsTurns(x, seed, m), m);
                before = turned;
            }
        }
    }

    /** "x becomes (75 x and 74) left over by 65537" "by 2 (cut) left over by 8" "by 16 (cut) is left over by 3 as 0" */
    private static void yearOfLeastAndGreatestDraws() {
        FairWheel x = new FairWheel();
        // seed 5242 becomes 2: B gets in, and by 16 that is 0, so it is pushed
        Check.due("B turns it back", x.year(5242, 1, -1), 1);
        x.weigh(1, 2);
        Check.due("B is light", x.year(5242, 1, 1), 1);
        // seed 3160 becomes 40463, 20097, 65535: by 16 that is 2528, 1256, 4095
        x.drag(9999);
        Check.due("not pushed twice", x.year(3160, 3, 0), 2);
        Check.due("then pushed", x.year(3160, 3, 1), 1);
        // 65535 is odd, and by 2 that is 32767: who is there gets out, and H gets in, who turns it back
        x = Check.told("H");
        x.weigh(7, 99);
        for (int person = 0; person < 7; person++) {
            x.weigh(person, 1);
        }
        Check.due("light ones let it stand", x.year(3160, 2, -1), 0);
        Check.due("H does not", x.year(3160, 3, -1), 1);
    }
}
