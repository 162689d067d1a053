/**
 * The edges of DOWN, PEBBLES, BRAKE and BALANCE (DOC.md, Terms 3, promises 14 to 17). Above each test stands the
 * sentence that it is for.
 */
public final class DownEdgesTest {
    private static final int NONE = FairWheel.NONE;
    private static final int FAR = Integer.MAX_VALUE, FAR_BELOW = Integer.MIN_VALUE;

    private DownEdgesTest() {
    }

    public static void main(String[] args) {
        downRefusesInOrder();
        downOfWhoIsNotOnTheWheel();
        downOfNoMoves();
        downOfOneMoveRoundTheRing();
        downOfTwoMoves();
        downOfThreeMoves();
        downFirstByWhoGetsIn();
        downNobodyGetsInLast();
        downInAnEmptyCarNobodyGetsOut();
        downOnAFullWheel();
        downAsksTheWheelAlone();
        pebblesRefuse();
        pebblesOfWhoIsThere();
        pebblesInPlaceOfThose();
        pebblesTheFewest();
        pebblesAtBothEnds();
        pebblesTheOtherWay();
        brakeOfAnEmptyAndAFullWheel();
        brakeAtTheDrag();
        brakeWhereverItIsTurnedTo();
        balanceRefusesInOrder();
        balanceOfEachSet();
        balanceOfAnEmptySet();
        balanceOfOne();
        balanceUpToFive();
        balanceTheFirst();
        balanceAllElseBeingEmpty();
        Check.end();
    }

    private static void downIs(FairWheel x, int person, int moves, int out, int in) {
        Check.due("moves for " + person, x.down(person, 0), moves);
        Check.due("whether one gets out for " + person, x.down(person, 1), out);
        Check.due("who gets in for " + person, x.down(person, 2), in);
    }

    private static FairWheel withWeight(int person, int v, String text) {
        FairWheel x = new FairWheel();
        x.weigh(person, v);
        return Check.tell(x, text);
    }

    /** Promise 14: "UNKNOWN; OUTSIDE; STATE: he is not on the wheel." */
    private static void downRefusesInOrder() {
        FairWheel x = Check.told("A>H>");
        for (int what : new int[] {FAR_BELOW, -1, 0, 1, 2, 3, FAR}) {
            for (int person : new int[] {FAR_BELOW, -8, -1, 8, 9, FAR}) {
                Check.due("down " + person + " " + what, x.down(person, what), FairWheel.UNKNOWN);
            }
            boolean asTold = what >= 0 && what <= 2;
            Check.due("down 1 " + what, x.down(1, what), asTold ? FairWheel.STATE : FairWheel.OUTSIDE);
            Check.due("down 6 " + what, x.down(6, what), asTold ? FairWheel.STATE : FairWheel.OUTSIDE);
        }
        for (int what : new int[] {FAR_BELOW, -1, 3, 4, FAR}) {
            Check.due("down 0 " + what, x.down(0, what), FairWheel.OUTSIDE);
            Check.due("down 7 " + what, x.down(7, what), FairWheel.OUTSIDE);
        }
        // back by one it pulls -70 with H at the foot; who got in holds it there
        downIs(x, 0, 1, 0, NONE);
        downIs(x, 7, 1, 0, 1);
    }

    /** "a PERSON on the wheel": nobody is on an empty one, all are on a full one. */
    private static void downOfWhoIsNotOnTheWheel() {
        FairWheel empty = Check.told("5>5>5");
        FairWheel full = Check.told("A>B>C>D>E>F>G>H");
        for (int person = 0; person < 8; person++) {
            downIs(empty, person, FairWheel.STATE, FairWheel.STATE, FairWheel.STATE);
            Check.dueThat("on the full wheel", full.down(person, 0) != FairWheel.STATE);
        }
        FairWheel x = Check.told("Aa");
        downIs(x, 0, FairWheel.STATE, FairWheel.STATE, FairWheel.STATE);
        Check.write(x, "A");
        downIs(x, 0, FairWheel.STATE, FairWheel.STATE, FairWheel.STATE);
    }

    /** "(1 to 3; 0: he is there)" and promise 14: "of 0 moves (1) and (2) are NONE" */
    private static void downOfNoMoves() {
        for (int car = 0; car < 8; car++) {
            for (int person = 0; person < 8; person++) {
                FairWheel x = Check.told(">".repeat(car) + (char) ('A' + person));
                downIs(x, person, 0, NONE, NONE);
            }
        }
        // though it would turn away with him when it is let go
        downIs(withWeight(1, 99, ">>B<<A"), 0, 0, NONE, NONE);
    }

    /** From the places 1 to 3 and 5 to 7 he comes down alone, from the top he does not: no pull, and no arm below. */
    private static void downOfOneMoveRoundTheRing() {
        for (int car = 0; car < 8; car++) {
            for (int place = 0; place < 8; place++) {
                FairWheel x = new FairWheel();
                for (int person = 1; person < 8; person++) {
                    x.weigh(person, 1);
                }
                Check.tell(x, ">".repeat(car) + "A" + "<".repeat(place));
                boolean top = place == 4;
                int moves = top ? NONE : place == 0 ? 0 : 1;
                downIs(x, 0, moves, moves == 1 ? 0 : NONE, moves == 1 ? 1 : NONE);
            }
        }
    }

    /** E is at the place 7, H at 5: back by one it pulls -100 with who got in at 7 each, who must weigh 12 then. */
    private static void downOfTwoMoves() {
        String text = "E<<H>>>";
        downIs(withWeight(0, 12, text), 4, 1, 0, 0);
        downIs(withWeight(0, 11, text), 4, 2, 0, 0);
        // else it goes on back by one, and is let go there: 10 of who got in each, beyond 20 from 3 on
        downIs(withWeight(0, 3, text), 4, 2, 0, 0);
        downIs(withWeight(0, 2, text), 4, 2, 0, 1);
    }

    /** "the fewest moves (1 to 3 ..)" and promise 14: "NONE: not by 3" */
    private static void downOfThreeMoves() {
        FairWheel x = Check.told("C>>>G>>>H>>>>>>");
        downIs(x, 7, 3, 0, 0);
        downIs(x, 2, NONE, NONE, NONE);
        downIs(x, 6, NONE, NONE, NONE);
        x = withWeight(0, 7, "F<<G<<<<");
        downIs(x, 6, 3, 0, 0);
        x.weigh(0, 10);
        downIs(x, 6, NONE, NONE, NONE);
    }

    /** "of several the first by who gets in (by number ..)" */
    private static void downFirstByWhoGetsIn() {
        // H is at the place 2, then at 1: 70 less 7 of who got in each, which is above 20 up to 7
        for (int person = 0; person < 7; person++) {
            downIs(withWeight(person, 7, "H<<"), 7, 1, 0, person);
            downIs(withWeight(person, 8, "H<<"), 7, 1, 0, NONE);
            FairWheel x = new FairWheel();
            for (int other = person; other < 7; other++) {
                x.weigh(other, 7);
            }
            downIs(Check.tell(x, "H<<"), 7, 1, 0, person);
        }
        FairWheel x = withWeight(0, 1, "H>A<<<");
        x.weigh(6, 7);
        // A is on the wheel already, at the place 3
        Check.due("A's car", x.told(20), 1);
        downIs(x, 7, 1, 0, 6);
    }

    /** "nobody last, then staying ahead of getting out": to stay is as to get out and in again, which is ahead. */
    private static void downNobodyGetsInLast() {
        downIs(withWeight(0, 7, "H<<A"), 7, 1, 1, 0);
        downIs(withWeight(0, 8, "H<<A"), 7, 1, 1, NONE);
        FairWheel x = withWeight(6, 7, "H<<A");
        downIs(x, 7, 1, 1, 6);
        x.weigh(0, 7);
        downIs(x, 7, 1, 1, 0);
        x = withWeight(3, 7, "H<<G");
        x.weigh(6, 7);
        downIs(x, 7, 1, 1, 3);
        x.weigh(3, 8);
        downIs(x, 7, 1, 1, 6);
    }

    /** "whether one gets out": nobody does where nobody is. */
    private static void downInAnEmptyCarNobodyGetsOut() {
        FairWheel x = Check.told("H<<");
        downIs(x, 7, 1, 0, NONE);
        Check.tell(x, "5");
        downIs(x, 7, 1, 0, NONE);
        Check.tell(x, "9");
        // 70 less 98 of the pebbles
        downIs(x, 7, NONE, NONE, NONE);
    }

    /** "(Who has got out may get in again.)": when all are on the wheel nobody else can. */
    private static void downOnAFullWheel() {
        FairWheel x = withWeight(5, 37, "A>B>C>D>E>F>G>H<");
        x.weigh(3, 41);
        Check.due("all are on it", x.told(3), 255);
        // G gets out, and in again where it was held then: PlainWheel finds no two moves without that
        downIs(x, 5, 2, 1, NONE);
        x = Check.told("A>C>D>E>F>G>H>B");
        x.weigh(0, 20);
        downIs(x, 0, 1, 1, 1);
    }

    private static void downAsksTheWheelAlone() {
        FairWheel x = Check.told("E<<H>>>");
        Check.write(x, "E?!");
        downIs(x, 4, 2, 0, 0);
        Check.due("the text stays", x.told(0), 3);
        Check.due("it was not let go", x.foot(), 1);
        Check.due("nobody got in", x.told(3), 1 + 64);
    }

    /** Promise 15: "UNKNOWN; STATE: he is not on the wheel." */
    private static void pebblesRefuse() {
        FairWheel x = Check.told("A>H>");
        for (int person : new int[] {FAR_BELOW, -8, -1, 8, 9, FAR}) {
            Check.due("person " + person, x.pebbles(person), FairWheel.UNKNOWN);
        }
        for (int person = 1; person < 7; person++) {
            Check.due("person " + person, x.pebbles(person), FairWheel.STATE);
        }
        Check.due("A", x.pebbles(0), 0);
        Check.due("H", x.pebbles(7), 8);
        FairWheel empty = Check.told("9");
        for (int person = 0; person < 8; person++) {
            Check.due("nobody is on it", empty.pebbles(person), FairWheel.STATE);
        }
    }

    /** "so that a PERSON is there when the wheel was LET GO then" */
    private static void pebblesOfWhoIsThere() {
        for (int car = 0; car < 8; car++) {
            FairWheel x = Check.told(">".repeat(car) + "A");
            Check.due("he is there", x.pebbles(0), 0);
            Check.tell(x, "<");
            Check.due("he comes on", x.pebbles(0), 0);
            Check.tell(x, ">>");
            Check.due("he comes back", x.pebbles(0), 0);
            Check.tell(x, ">>>");
            Check.due("not from the top", x.pebbles(0), NONE);
        }
        FairWheel x = Check.told(">B<A");
        Check.due("he turns away, pebbles or not", x.pebbles(0), NONE);
        x.drag(70);
        Check.due("he stays", x.pebbles(0), 0);
    }

    /** "in place of those that are in it" */
    private static void pebblesInPlaceOfThose() {
        // with A at the place 1 the pebbles hang at 7: 70 less 7 for each
        FairWheel x = Check.told("A<<" + "9".repeat(11));
        Check.write(x, "^");
        Check.due("with 99 it is held before", x.behind(0), 7);
        Check.due("without them he comes", x.pebbles(0), 0);
        Check.due("they stay", x.car(6, 1), 99);
        // elsewhere pebbles do count
        x = Check.told("A<<<<1>>");
        Check.due("one at the place 6", x.pebbles(0), 0);
        Check.tell(x, "<<9>>");
        Check.due("ten hold it", x.pebbles(0), NONE);
    }

    /** E is at the top, A at the place 6: with n pebbles it pulls -100, then 7 n - 140, then 10 n - 100. */
    private static void pebblesTheFewest() {
        FairWheel x = Check.told(">>>>>E>>A>>");
        Check.due("foot", x.foot(), 1);
        Check.due("8 to 17 bring A down", x.pebbles(0), 8);
        Check.due("none brings E down", x.pebbles(4), NONE);
        x.drag(21);
        Check.due("-30 would do", x.pebbles(0), 8);
        x.drag(30);
        Check.due("-30 does", x.pebbles(0), 7);
        x.drag(0);
        Check.due("0 does", x.pebbles(0), 10);
        x.weigh(0, 99);
        Check.due("a heavier A as well", x.pebbles(0), 10);
    }

    /** "the fewest (0 to 99 in all ..)" and "NONE": 98, 99, and 100, which is too many. */
    private static void pebblesAtBothEnds() {
        FairWheel x = withWeight(1, 99, ">A>B<<");
        x.drag(0);
        // with A at the foot B pulls 693, so 99 pebbles hold it
        Check.due("99", x.pebbles(0), 99);
        x.drag(1);
        Check.due("99 still", x.pebbles(0), 99);
        x.drag(6);
        Check.due("99 up to 6", x.pebbles(0), 99);
        x.drag(7);
        Check.due("98", x.pebbles(0), 98);
        x.drag(0);
        Check.tell(x, ">>1<<");
        Check.due("100 would do", x.pebbles(0), NONE);
        x.drag(7);
        Check.due("99 again", x.pebbles(0), 99);
        x.drag(692);
        Check.due("2", x.pebbles(0), 2);
        x.drag(693);
        Check.due("1", x.pebbles(0), 1);
        x.drag(700);
        Check.due("0", x.pebbles(0), 0);
    }

    /** The same, the other way round the ring. */
    private static void pebblesTheOtherWay() {
        for (int foot = 0; foot < 8; foot++) {
            FairWheel x = withWeight(1, 99, ">".repeat(foot) + "<A<B>>");
            x.drag(0);
            Check.due("99", x.pebbles(0), 99);
            x.drag(7);
            Check.due("98", x.pebbles(0), 98);
            Check.due("for B", x.pebbles(1), 0);
        }
    }

    /** "BRAKE: the least DRAG by which the wheel as it is filled stands wherever it is turned to" */
    private static void brakeOfAnEmptyAndAFullWheel() {
        FairWheel x = new FairWheel();
        Check.due("empty", x.brake(), 0);
        x.drag(9999);
        Check.due("the drag does not matter", x.brake(), 0);
        Check.tell(x, "1");
        Check.due("one pebble", x.brake(), 10);
        x.drag(0);
        Check.due("one pebble, without drag", x.brake(), 10);
        x = Check.told("A>B>C>D>E>F>G>H");
        Check.due("all alike", x.brake(), 0);
        x.weigh(7, 99);
        Check.due("H heavier by 89", x.brake(), 890);
        x.weigh(7, 1);
        Check.due("H lighter by 9", x.brake(), 90);
    }

    private static boolean standsEverywhere(FairWheel x) {
        for (int turn = 0; turn < 8; turn++) {
            Check.write(x, ">".repeat(turn) + "^");
            if (x.behind(2) != 1000) {
                return false;
            }
        }
        return true;
    }

    private static void brakeAtTheDrag() {
        for (String text : new String[] {"A", "A1", "A>B", "A>>B", "A>>>B", "A>9", "A>B>C", "A9>>>C5>>D2"}) {
            FairWheel x = Check.told(text);
            int brake = x.brake();
            x.drag(brake);
            Check.dueThat(text + " stands with " + brake, standsEverywhere(x));
            x.drag(brake - 1);
            Check.dueThat(text + " turns with one less", !standsEverywhere(x));
        }
    }

    /** "(all eight CARS at THE FOOT)" */
    private static void brakeWhereverItIsTurnedTo() {
        for (int turn = 0; turn < 8; turn++) {
            FairWheel x = Check.told("A>>>4" + ">".repeat(turn));
            // at the places 2 and 5, and the other way round at 6 and 1
            Check.due("one", x.brake(), 100 - 28);
            // at the places 1 to 3
            x = Check.told("A>>4" + ">".repeat(turn));
            Check.due("two on one side", x.brake(), 100);
            x = Check.told("A>>9" + ">".repeat(turn));
            Check.due("heavier than at the arm 10", x.brake(), 70 + 63);
            x = Check.told("1" + ">".repeat(turn));
            Check.due("a pebble", x.brake(), 10);
        }
    }

    /** Promise 17: "UNKNOWN: the PERSON; OUTSIDE: bits 0 to 255; UNKNOWN: who is not of the set; FULL: more than 5." */
    private static void balanceRefusesInOrder() {
        FairWheel x = new FairWheel();
        for (int set : new int[] {FAR_BELOW, -1, 0, 31, 63, 255, 256, FAR}) {
            for (int person : new int[] {FAR_BELOW, -3, -2, 8, 9, FAR}) {
                Check.due("balance " + set + " " + person, x.balance(set, person), FairWheel.UNKNOWN);
            }
        }
        for (int set : new int[] {FAR_BELOW, -256, -2, -1, 256, 257, 511, 65536, FAR}) {
            for (int person = -1; person < 8; person++) {
                Check.due("balance " + set + " " + person, x.balance(set, person), FairWheel.OUTSIDE);
            }
        }
        for (int person = 0; person < 8; person++) {
            int allBut = 255 - (1 << person);
            Check.due("not of 7, ahead of full", x.balance(allBut, person), FairWheel.UNKNOWN);
            Check.due("not of none", x.balance(0, person), FairWheel.UNKNOWN);
            Check.due("of all", x.balance(255, person), FairWheel.FULL);
        }
        Check.due("6", x.balance(63, -1), FairWheel.FULL);
        Check.due("6", x.balance(63, 0), FairWheel.FULL);
        Check.due("7", x.balance(127, -1), FairWheel.FULL);
        Check.due("5", x.balance(31, 0), NONE);
        Check.due("5", x.balance(248, 7), NONE);
        Check.due("5, not of them", x.balance(248, 2), FairWheel.UNKNOWN);
    }

    /** "PEOPLE of a set (5 at most)": all sets, with no drag that could turn it, so all seatings count. */
    private static void balanceOfEachSet() {
        FairWheel x = new FairWheel();
        x.drag(9999);
        int[] ways = {1, 8, 56, 336, 1680, 6720};
        for (int set = 0; set < 256; set++) {
            int people = Integer.bitCount(set);
            Check.due("ways of " + set, x.balance(set, -1), people > 5 ? FairWheel.FULL : ways[people]);
        }
    }

    private static void balanceOfAnEmptySet() {
        FairWheel x = Check.told("A>B");
        Check.due("one way", x.balance(0, -1), 1);
        x.drag(0);
        Check.due("one way", x.balance(0, -1), 1);
        Check.due("nobody is of it", x.balance(0, 0), FairWheel.UNKNOWN);
        Check.due("nobody is of it", x.balance(0, 7), FairWheel.UNKNOWN);
    }

    /** "by which it stands wherever it is turned to": at the drag it does, beyond it does not. */
    private static void balanceOfOne() {
        for (int person = 0; person < 8; person++) {
            FairWheel x = new FairWheel();
            x.weigh(person, 31);
            x.drag(310);
            Check.due("at the drag", x.balance(1 << person, -1), 8);
            Check.due("in the first car", x.balance(1 << person, person), 0);
            x.drag(309);
            Check.due("beyond it", x.balance(1 << person, -1), 0);
            Check.due("in none", x.balance(1 << person, person), NONE);
        }
    }

    /** "one to a CAR" "how many (person = -1), the CAR of a PERSON in the first; NONE" */
    private static void balanceUpToFive() {
        FairWheel x = new FairWheel();
        x.drag(9999);
        for (int i = 0; i < 5; i++) {
            Check.due("A to E", x.balance(31, i), i);
            Check.due("D to H", x.balance(248, 3 + i), i);
        }
        x.drag(0);
        Check.due("five alike never stand", x.balance(31, -1), 0);
        for (int i = 0; i < 5; i++) {
            Check.due("none is the first", x.balance(31, i), NONE);
        }
        Check.due("four do", x.balance(240, -1), 3 * 8 * 6);
        Check.due("two do", x.balance(129, -1), 8);
        Check.due("A", x.balance(129, 0), 0);
        Check.due("H", x.balance(129, 7), 4);
    }

    /** "the first (by CARS of its PEOPLE, the least PERSON first)" */
    private static void balanceTheFirst() {
        FairWheel x = new FairWheel();
        x.weigh(2, 14);
        x.weigh(4, 20);
        x.weigh(6, 14);
        // the heavier one across, between the others, who sit two cars apart: E is in 3 or 5
        Check.due("ways", x.balance(84, -1), 16);
        Check.due("C", x.balance(84, 2), 0);
        Check.due("E", x.balance(84, 4), 3);
        Check.due("G", x.balance(84, 6), 6);
        x.weigh(2, 20);
        x.weigh(4, 14);
        Check.due("ways", x.balance(84, -1), 16);
        Check.due("C across", x.balance(84, 2), 0);
        Check.due("E", x.balance(84, 4), 3);
        Check.due("G", x.balance(84, 6), 5);
    }

    /** "all else being empty" */
    private static void balanceAllElseBeingEmpty() {
        for (int turn = 0; turn < 8; turn++) {
            FairWheel x = Check.told("A99>C9>>B5" + ">".repeat(turn));
            int foot = x.foot();
            Check.due("two across", x.balance(3, -1), 8);
            Check.due("A", x.balance(3, 0), 0);
            Check.due("B", x.balance(3, 1), 4);
            Check.due("the foot stays", x.foot(), foot);
            Check.due("pebbles stay", x.car(0, 1), 18);
            Check.due("all stay", x.told(3), 1 + 2 + 8);
        }
    }
}
