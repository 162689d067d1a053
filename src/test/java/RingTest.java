/**
 * The edges of DOC.md, Terms 1, of CARS, PLACES, ARMS, PULL, DRAG and LET GO (and promises 1 to 3, 9 to 11):
 * round the ring in both directions. Above each test stands the sentence that it is for.
 */
public final class RingTest {
    private static final int NONE = FairWheel.NONE;
    /** A row for each car at the foot; in it the place of each car. */
    private static final String[] PLACES = {
        "01234567", "70123456", "67012345", "56701234", "45670123", "34567012", "23456701", "12345670"};
    private static final int[] ARMS = {0, 7, 10, 7, 0, -7, -10, -7};
    private static final int FAR = Integer.MAX_VALUE, FAR_BELOW = Integer.MIN_VALUE;

    private RingTest() {
    }

    public static void main(String[] args) {
        newWheelIsEmpty();
        carsGoOnRound();
        carsGoBackRound();
        placesOfAllCars();
        carsBeyondTheRing();
        answersOfACar();
        armsOfAllPlaces();
        peopleAreEight();
        weightsAtBothEnds();
        pebblesWeighOne();
        pullOfAFullWheel();
        greatestPull();
        pullBeforeAndBehindTheText();
        dragAtBothEnds();
        beyondTheDragOrNot();
        turnsOverSevenToNought();
        goesOnUntilItIsHeld();
        heldOnTheOtherSide();
        standsWithoutPull();
        Check.end();
    }

    /** A wheel with A in this car, the second car told being at the foot. */
    private static FairWheel withA(int car, int foot, int weight) {
        FairWheel x = new FairWheel();
        Check.due("weight of A", x.weigh(0, weight), 10);
        Check.tell(x, ">".repeat(car) + "A" + ">".repeat((foot - car + 8) % 8));
        Check.due("foot", x.foot(), foot);
        return x;
    }

    /** "Nobody is on the wheel." "(CAR 0 at first)" "(10 each at first)" "none at first" "20 at first" */
    private static void newWheelIsEmpty() {
        FairWheel x = new FairWheel();
        Check.due("foot", x.foot(), 0);
        Check.due("drag", x.told(1), 20);
        Check.due("taken", x.told(3), 0);
        Check.due("signs", x.told(0), 0);
        Check.due("sights", x.told(2), 0);
        for (int i = 0; i < 8; i++) {
            Check.due("who is in car " + i, x.car(i, 0), NONE);
            Check.due("pebbles of car " + i, x.car(i, 1), 0);
            Check.due("weight of " + i, x.told(10 + i), 10);
            Check.due("car of " + i, x.told(20 + i), NONE);
        }
        Check.due("pull", x.pull(), 1000000);
    }

    /** "CARS 0 to 7, in a ring" "the next one by number comes to THE FOOT" "(7: then 0)" */
    private static void carsGoOnRound() {
        FairWheel x = new FairWheel();
        int[] foots = {1, 2, 3, 4, 5, 6, 7, 0, 1};
        for (int i = 0; i < foots.length; i++) {
            Check.tell(x, ">");
            Check.due("pushed on " + (i + 1) + " times", x.foot(), foots[i]);
        }
        Check.tell(x, ">".repeat(60));
        Check.due("60 on from 1", x.foot(), 5);
    }

    /** "pushed back by one: the one ahead does" */
    private static void carsGoBackRound() {
        FairWheel x = new FairWheel();
        int[] foots = {7, 6, 5, 4, 3, 2, 1, 0, 7};
        for (int i = 0; i < foots.length; i++) {
            Check.tell(x, "<");
            Check.due("pushed back " + (i + 1) + " times", x.foot(), foots[i]);
        }
        Check.tell(x, "<".repeat(60));
        Check.due("60 back from 7", x.foot(), 3);
    }

    /** "A CAR k CARS on from THE FOOT (k 0 to 7, by number, round) is at PLACE k" */
    private static void placesOfAllCars() {
        FairWheel on = new FairWheel();
        FairWheel back = new FairWheel();
        for (int turn = 0; turn <= 8; turn++) {
            for (int car = 0; car < 8; car++) {
                Check.due("place of " + car + ", " + turn + " on", on.car(car, 2), PLACES[turn % 8].charAt(car) - '0');
                int due = PLACES[(16 - turn) % 8].charAt(car) - '0';
                Check.due("place of " + car + ", " + turn + " back", back.car(car, 2), due);
            }
            Check.tell(on, ">");
            Check.tell(back, "<");
        }
    }

    /** Promise 10: "UNKNOWN; OUTSIDE." */
    private static void carsBeyondTheRing() {
        FairWheel x = Check.told("A>");
        for (int car : new int[] {FAR_BELOW, -8, -1, 8, 9, 16, FAR}) {
            for (int what : new int[] {FAR_BELOW, -1, 0, 1, 2, 3, FAR}) {
                Check.due("car " + car + " " + what, x.car(car, what), FairWheel.UNKNOWN);
            }
        }
        for (int what : new int[] {FAR_BELOW, -1, 3, 4, FAR}) {
            Check.due("car 0 " + what, x.car(0, what), FairWheel.OUTSIDE);
            Check.due("car 7 " + what, x.car(7, what), FairWheel.OUTSIDE);
        }
        Check.due("place of 0", x.car(0, 2), 7);
        Check.due("place of 7", x.car(7, 2), 6);
    }

    /** Promise 10: "Who is in a CAR (what = 0; NONE), its PEBBLES (1), its PLACE (2)." */
    private static void answersOfACar() {
        FairWheel x = Check.told("H9>>>>>>>A1");
        Check.due("who in 0", x.car(0, 0), 7);
        Check.due("pebbles of 0", x.car(0, 1), 9);
        Check.due("place of 0", x.car(0, 2), 1);
        Check.due("who in 7", x.car(7, 0), 0);
        Check.due("pebbles of 7", x.car(7, 1), 1);
        Check.due("place of 7", x.car(7, 2), 0);
        Check.due("who in 6", x.car(6, 0), NONE);
        Check.due("pebbles of 6", x.car(6, 1), 0);
        Check.due("place of 6", x.car(6, 2), 7);
    }

    /** "ARMS of PLACES 0 to 7: 0, 7, 10, 7, 0, -7, -10, -7." "PLACE 4 is the top" */
    private static void armsOfAllPlaces() {
        for (int car = 0; car < 8; car++) {
            for (int place = 0; place < 8; place++) {
                FairWheel x = withA(car, (car - place + 8) % 8, 1);
                Check.due("place of car " + car, x.car(car, 2), place);
                Check.due("pull of car " + car + " at " + place, x.pull(), 1000000 + ARMS[place]);
            }
        }
    }

    /** Promise 2: "Weight of a PERSON: which it was. UNKNOWN; OUTSIDE." "PEOPLE 0 to 7 (A to H)" */
    private static void peopleAreEight() {
        FairWheel x = new FairWheel();
        for (int person = 0; person < 8; person++) {
            Check.due("of " + person, x.weigh(person, 20 + person), 10);
        }
        for (int person = 0; person < 8; person++) {
            Check.due("of " + person + " again", x.weigh(person, 30 + person), 20 + person);
            Check.due("told of " + person, x.told(10 + person), 30 + person);
        }
        for (int person : new int[] {FAR_BELOW, -8, -1, 8, 9, 16, FAR}) {
            Check.due("of " + person, x.weigh(person, 5), FairWheel.UNKNOWN);
            Check.due("unknown ahead of outside", x.weigh(person, 0), FairWheel.UNKNOWN);
            Check.due("unknown ahead of outside", x.weigh(person, 100), FairWheel.UNKNOWN);
        }
        for (int person = 0; person < 8; person++) {
            Check.due("told of " + person + " then", x.told(10 + person), 30 + person);
        }
    }

    /** "weigh 1 to 99" */
    private static void weightsAtBothEnds() {
        for (int person = 0; person < 8; person++) {
            FairWheel x = new FairWheel();
            Check.due("1", x.weigh(person, 1), 10);
            Check.due("0", x.weigh(person, 0), FairWheel.OUTSIDE);
            Check.due("-1", x.weigh(person, -1), FairWheel.OUTSIDE);
            Check.due("99", x.weigh(person, 99), 1);
            Check.due("100", x.weigh(person, 100), FairWheel.OUTSIDE);
            Check.due("far", x.weigh(person, FAR), FairWheel.OUTSIDE);
            Check.due("far below", x.weigh(person, FAR_BELOW), FairWheel.OUTSIDE);
            Check.due("it stays", x.told(10 + person), 99);
            Check.due("the same", x.weigh(person, 99), 99);
        }
        FairWheel x = withA(0, 6, 99);
        Check.due("pull of 99", x.pull(), 1000990);
        x.weigh(0, 1);
        Check.due("pull of 1", x.pull(), 1000010);
        x.weigh(0, 0);
        Check.due("pull of 1 still", x.pull(), 1000010);
    }

    /** "PEBBLES (each weighs 1; none at first)" "PULL: weights of all CARS (people and PEBBLES)" */
    private static void pebblesWeighOne() {
        for (int place = 0; place < 8; place++) {
            FairWheel x = Check.told("1" + "<".repeat(place));
            Check.due("one pebble at " + place, x.pull(), 1000000 + ARMS[place]);
            Check.due("who is with it", x.car(0, 0), NONE);
            x = Check.told("9".repeat(11) + "<".repeat(place));
            Check.due("99 pebbles at " + place, x.pull(), 1000000 + 99 * ARMS[place]);
            Check.tell(x, ">".repeat(place) + "A" + "<".repeat(place));
            Check.due("and A", x.pull(), 1000000 + 109 * ARMS[place]);
            Check.tell(x, ">".repeat(place) + "0" + "<".repeat(place));
            Check.due("A alone", x.pull(), 1000000 + 10 * ARMS[place]);
        }
    }

    /** "each times the ARM of its PLACE, together" */
    private static void pullOfAFullWheel() {
        FairWheel x = Check.told("A>B>C>D>E>F>G>H");
        Check.due("all are taken", x.told(3), 255);
        for (int turn = 0; turn < 8; turn++) {
            Check.due("all alike, " + turn + " on", x.pull(), 1000000);
            Check.tell(x, ">");
        }
        for (int person = 0; person < 8; person++) {
            x.weigh(person, person + 1);
        }
        // with car 7 at the foot A to G hang at the places 1 to 7
        Check.due("foot", x.foot(), 7);
        Check.due("1 to 7", x.pull(), 1000000 + 7 + 20 + 21 - 35 - 60 - 49);
        Check.tell(x, ">");
        // with car 0 there B to H do
        Check.due("2 to 8", x.pull(), 1000000 + 14 + 30 + 28 - 42 - 70 - 56);
        Check.tell(x, "<<");
        // with car 6 there H is at the place 1, A to F at the places 2 to 7
        Check.due("8, then 1 to 6", x.pull(), 1000000 + 56 + 10 + 14 - 28 - 50 - 42);
    }

    /** The greatest pull that there can be: 99 and 99 in three cars on one side. */
    private static void greatestPull() {
        FairWheel x = new FairWheel();
        for (int person = 0; person < 3; person++) {
            x.weigh(person, 99);
        }
        String nines = "9".repeat(11);
        Check.tell(x, "A" + nines + ">B" + nines + ">C" + nines + "<<<");
        Check.due("on", x.pull(), 1000000 + 198 * 24);
        Check.write(x, "<<<<");
        Check.due("back", x.behind(1), 1000000 - 198 * 24);
        Check.due("brake", x.brake(), 198 * 24);
        Check.due("drag", x.drag(198 * 24), 20);
        Check.write(x, "^");
        Check.due("held by as much drag", x.behind(2), 1000);
        x.drag(198 * 24 - 1);
        Check.due("not by one less", x.behind(2), 1001);
        x.drag(9999);
        Check.due("nothing turns it then", x.behind(2), 1000);
    }

    /** Promise 11: "PULL, and 1000000." Promise 9: "Which CAR is at THE FOOT now." */
    private static void pullBeforeAndBehindTheText() {
        FairWheel x = Check.write(new FairWheel(), "A<<");
        Check.due("what is not done does not pull", x.pull(), 1000000);
        Check.due("nor turn", x.foot(), 0);
        x.done();
        Check.due("what is done pulls", x.pull(), 1000100);
        Check.due("and turns", x.foot(), 6);
        Check.write(x, ">>!");
        Check.due("a fault does not matter", x.pull(), 1000100);
        Check.due("nor here", x.foot(), 6);
    }

    /** Promise 3: "DRAG: which it was. OUTSIDE." "DRAG (0 to 9999; 20 at first)" */
    private static void dragAtBothEnds() {
        FairWheel x = new FairWheel();
        Check.due("0", x.drag(0), 20);
        Check.due("-1", x.drag(-1), FairWheel.OUTSIDE);
        Check.due("0 stays", x.told(1), 0);
        Check.due("9999", x.drag(9999), 0);
        Check.due("10000", x.drag(10000), FairWheel.OUTSIDE);
        Check.due("far", x.drag(FAR), FairWheel.OUTSIDE);
        Check.due("far below", x.drag(FAR_BELOW), FairWheel.OUTSIDE);
        Check.due("9999 stays", x.told(1), 9999);
        Check.due("the same", x.drag(9999), 9999);
        Check.due("back again", x.drag(20), 9999);
    }

    /** "if PULL is above DRAG ..; if PULL is below 0 less DRAG ..; else it stands" */
    private static void beyondTheDragOrNot() {
        for (int weight : new int[] {1, 2, 10, 99}) {
            for (int place : new int[] {1, 2, 3, 5, 6, 7}) {
                FairWheel x = withA(0, (8 - place) % 8, weight);
                int drag = weight * (ARMS[place] > 0 ? ARMS[place] : -ARMS[place]);
                Check.write(x, "^");
                x.drag(drag);
                Check.due("as much drag at " + place, x.behind(2), 1000);
                x.drag(drag + 1);
                Check.due("one more at " + place, x.behind(2), 1000);
                x.drag(drag - 1);
                Check.dueThat("one less at " + place, ARMS[place] > 0 ? x.behind(2) > 1000 : x.behind(2) < 1000);
            }
        }
        FairWheel x = withA(0, 7, 1);
        x.drag(0);
        Check.write(x, "^");
        Check.due("pull 7 turns it without drag", x.behind(2), 1001);
        Check.write(x, ">>^");
        Check.due("so does -7", x.behind(2), 999);
        Check.write(x, ">^");
        Check.due("0 does not", x.behind(2), 1000);
    }

    /** "the next CAR by number comes to THE FOOT (7: then 0); .. the one ahead by number does" */
    private static void turnsOverSevenToNought() {
        int[] turned = {0, 1, 2, 3, 0, -3, -2, -1};
        for (int car = 0; car < 8; car++) {
            for (int place = 0; place < 8; place++) {
                int foot = (car - place + 8) % 8;
                FairWheel x = withA(car, foot, 10);
                Check.write(x, "^");
                int due = place == 4 ? foot : car;
                Check.due("car " + car + " from " + place, x.behind(0), due);
                Check.due("turned by from " + place, x.behind(2), 1000 + turned[place]);
                Check.due("done", x.done(), 1);
                Check.due("at the foot", x.foot(), due);
                Check.due("A stays in his car", x.told(20), car);
            }
        }
    }

    /** "It goes on so one CAR after another, as long as PULL is beyond DRAG on the same side .. then it is held." */
    private static void goesOnUntilItIsHeld() {
        for (int foot = 0; foot < 8; foot++) {
            FairWheel x = withA((foot + 2) % 8, foot, 10);
            Check.write(x, "^");
            x.drag(70);
            Check.due("100, then 70: held one ahead of A", x.behind(2), 1001);
            x.drag(69);
            Check.due("100, then 70, then 0: held with A there", x.behind(2), 1002);
            x = withA((foot + 6) % 8, foot, 10);
            Check.write(x, "^");
            x.drag(70);
            Check.due("-100, then -70: held one ahead of A", x.behind(2), 999);
            x.drag(69);
            Check.due("-100, then -70, then 0: held with A there", x.behind(2), 998);
        }
    }

    /** "on the same side as at first; then it is held" */
    private static void heldOnTheOtherSide() {
        for (int foot = 0; foot < 8; foot++) {
            FairWheel x = new FairWheel();
            x.weigh(1, 20);
            Check.tell(x, ">".repeat(foot) + ">>>A>B" + "<<<<");
            // A is at the place 3, B at 4: it pulls 70, 240, 270, 140, and then -70
            Check.write(x, "^");
            Check.due("turned by four", x.behind(2), 1004);
            Check.due("the foot", x.behind(0), (foot + 4) % 8);
            Check.due("it pulls back then", x.behind(1), 1000000 - 70);
            Check.write(x, "^^");
            // let go again: -70, and then 140
            Check.due("back by one", x.behind(2), 1003);
            Check.due("it pulls on then", x.behind(1), 1000140);
            // one car ahead it pulls -140, -270, -240, -70, and then 140
            Check.write(x, "<^");
            Check.due("turned back by four", x.behind(2), 996);
            Check.due("the foot behind that", x.behind(0), (foot + 3) % 8);
            Check.due("it pulls on then", x.behind(1), 1000140);
        }
    }

    /** "else it stands" */
    private static void standsWithoutPull() {
        FairWheel x = Check.write(new FairWheel(), "^");
        x.drag(0);
        Check.due("nobody is on it", x.behind(2), 1000);
        Check.write(x, "5^");
        Check.due("pebbles at the foot", x.behind(2), 1000);
        Check.write(x, "5<<<<^");
        Check.due("pebbles at the top", x.behind(2), 1000);
        Check.write(x, "A>B>C>D>E>F>G>H^");
        Check.due("all alike", x.behind(2), 1000);
        Check.write(x, "A>>>>B>>^");
        Check.due("two across", x.behind(2), 1000);
        Check.write(x, "A>>>>B1>>^");
        Check.due("a pebble turns it", x.behind(2), 998);
    }
}
